-- printed by wip/whole/gen6.py out of the decode rows and the tables
theorem qs_22 : Cond.selects "WindJump$Law" ⟨"WindJump$Law", "worth", "(I)I"⟩ ⟨"WindJump$Law", "worth", "(I)I"⟩ ∈ TBG := inTBGs (i := 22) (by decide +kernel) (by decide +kernel)
theorem qs_23 : Cond.selects "WindJump$Law" ⟨"WindJump$Law", "joined", "(III)I"⟩ ⟨"WindJump$Law", "joined", "(III)I"⟩ ∈ TBG := inTBGs (i := 23) (by decide +kernel) (by decide +kernel)
theorem q_2 : (Jvm.Cond.initialized "WindJump$Tape") ∈ TBG := inTBG (i := 2) (by decide +kernel) (by decide +kernel)
theorem q_6 : (Jvm.Cond.initialized "WindJump$Law") ∈ TBG := inTBG (i := 6) (by decide +kernel) (by decide +kernel)
theorem q_7 : (Jvm.Cond.initialized "WindJump$People") ∈ TBG := inTBG (i := 7) (by decide +kernel) (by decide +kernel)
theorem q_12 : (Jvm.Cond.initialized "WindJump$Told") ∈ TBG := inTBG (i := 12) (by decide +kernel) (by decide +kernel)
theorem q_36 : (Jvm.Cond.fieldLink "WindJump$Tape" (11 : Nat) "WindJump$Tape" "bytes" "[B") ∈ TBG := inTBG (i := 36) (by decide +kernel) (by decide +kernel)
theorem q_37 : (Jvm.Cond.fieldLink "WindJump$Tape" (15 : Nat) "WindJump$Tape" "length" "I") ∈ TBG := inTBG (i := 37) (by decide +kernel) (by decide +kernel)
theorem q_119 : (Jvm.Cond.fieldLink "WindJump$Law" (9 : Nat) "WindJump$Law" "ops" "[I") ∈ TBG := inTBG (i := 119) (by decide +kernel) (by decide +kernel)
theorem q_120 : (Jvm.Cond.fieldLink "WindJump$Law" (15 : Nat) "WindJump$Law" "values" "[I") ∈ TBG := inTBG (i := 120) (by decide +kernel) (by decide +kernel)
theorem q_121 : (Jvm.Cond.fieldLink "WindJump$Law" (18 : Nat) "WindJump$Law" "ends" "[I") ∈ TBG := inTBG (i := 121) (by decide +kernel) (by decide +kernel)
theorem q_122 : (Jvm.Cond.fieldLink "WindJump$Law" (21 : Nat) "WindJump$Law" "vars" "[I") ∈ TBG := inTBG (i := 122) (by decide +kernel) (by decide +kernel)
theorem q_123 : (Jvm.Cond.fieldLink "WindJump$Law" (24 : Nat) "WindJump$Law" "open" "[I") ∈ TBG := inTBG (i := 123) (by decide +kernel) (by decide +kernel)
theorem q_124 : (Jvm.Cond.fieldLink "WindJump$Law" (27 : Nat) "WindJump$Law" "size" "I") ∈ TBG := inTBG (i := 124) (by decide +kernel) (by decide +kernel)
theorem q_125 : (Jvm.Cond.fieldLink "WindJump$Law" (31 : Nat) "WindJump$Law" "pieces" "I") ∈ TBG := inTBG (i := 125) (by decide +kernel) (by decide +kernel)
theorem q_127 : (Jvm.Cond.fieldLink "WindJump$Law" (41 : Nat) "WindJump$Law" "broken" "Z") ∈ TBG := inTBG (i := 127) (by decide +kernel) (by decide +kernel)
theorem q_151 : (Jvm.Cond.fieldLink "WindJump$People" (9 : Nat) "WindJump$People" "weight" "[I") ∈ TBG := inTBG (i := 151) (by decide +kernel) (by decide +kernel)
theorem q_154 : (Jvm.Cond.fieldLink "WindJump$People" (15 : Nat) "WindJump$People" "ski" "[I") ∈ TBG := inTBG (i := 154) (by decide +kernel) (by decide +kernel)
theorem q_157 : (Jvm.Cond.fieldLink "WindJump$People" (18 : Nat) "WindJump$People" "slip" "[I") ∈ TBG := inTBG (i := 157) (by decide +kernel) (by decide +kernel)
theorem q_159 : (Jvm.Cond.fieldLink "WindJump$People" (21 : Nat) "WindJump$People" "land" "[I") ∈ TBG := inTBG (i := 159) (by decide +kernel) (by decide +kernel)
theorem q_161 : (Jvm.Cond.fieldLink "WindJump$People" (24 : Nat) "WindJump$People" "lean" "[I") ∈ TBG := inTBG (i := 161) (by decide +kernel) (by decide +kernel)
theorem q_163 : (Jvm.Cond.fieldLink "WindJump$People" (27 : Nat) "WindJump$People" "judgeLand" "[I") ∈ TBG := inTBG (i := 163) (by decide +kernel) (by decide +kernel)
theorem q_165 : (Jvm.Cond.fieldLink "WindJump$People" (30 : Nat) "WindJump$People" "men" "I") ∈ TBG := inTBG (i := 165) (by decide +kernel) (by decide +kernel)
theorem q_168 : (Jvm.Cond.fieldLink "WindJump$People" (34 : Nat) "WindJump$People" "judges" "I") ∈ TBG := inTBG (i := 168) (by decide +kernel) (by decide +kernel)
theorem q_408 : (Jvm.Cond.fieldLink "WindJump$Told" (11 : Nat) "WindJump$Told" "man" "[I") ∈ TBG := inTBG (i := 408) (by decide +kernel) (by decide +kernel)
theorem q_410 : (Jvm.Cond.fieldLink "WindJump$Told" (15 : Nat) "WindJump$Told" "second" "[I") ∈ TBG := inTBG (i := 410) (by decide +kernel) (by decide +kernel)
theorem q_412 : (Jvm.Cond.fieldLink "WindJump$Told" (18 : Nat) "WindJump$Told" "length" "[I") ∈ TBG := inTBG (i := 412) (by decide +kernel) (by decide +kernel)
theorem q_414 : (Jvm.Cond.fieldLink "WindJump$Told" (21 : Nat) "WindJump$Told" "count" "I") ∈ TBG := inTBG (i := 414) (by decide +kernel) (by decide +kernel)
theorem q_430 : (Jvm.Cond.instanceMethod ({ cls := "WindJump$Law", name := "clear", desc := "()V" } : Jvm.MethodName)) ∈ TBG := inTBG (i := 430) (by decide +kernel) (by decide +kernel)
theorem q_431 : (Jvm.Cond.selects "WindJump$Law" ({ cls := "WindJump$Law", name := "clear", desc := "()V" } : Jvm.MethodName) ({ cls := "WindJump$Law", name := "clear", desc := "()V" } : Jvm.MethodName)) ∈ TBG := inTBG (i := 431) (by decide +kernel) (by decide +kernel)
theorem q_432 : (Jvm.Cond.code ({ cls := "WindJump$Law", name := "clear", desc := "()V" } : Jvm.MethodName) prog_4_method_2_code (1 : Nat) (Option.none : Option Jvm.ClassFile.FieldType)) ∈ TBG := inTBG (i := 432) (by decide +kernel) (by decide +kernel)
theorem q_437 : (Jvm.Cond.instanceMethod ({ cls := "WindJump$People", name := "clear", desc := "()V" } : Jvm.MethodName)) ∈ TBG := inTBG (i := 437) (by decide +kernel) (by decide +kernel)
theorem q_438 : (Jvm.Cond.selects "WindJump$People" ({ cls := "WindJump$People", name := "clear", desc := "()V" } : Jvm.MethodName) ({ cls := "WindJump$People", name := "clear", desc := "()V" } : Jvm.MethodName)) ∈ TBG := inTBG (i := 438) (by decide +kernel) (by decide +kernel)
theorem q_439 : (Jvm.Cond.code ({ cls := "WindJump$People", name := "clear", desc := "()V" } : Jvm.MethodName) prog_6_method_2_code (1 : Nat) (Option.none : Option Jvm.ClassFile.FieldType)) ∈ TBG := inTBG (i := 439) (by decide +kernel) (by decide +kernel)
theorem q_445 : (Jvm.Cond.instanceMethod ({ cls := "WindJump$Law", name := "fillUntold", desc := "(I)V" } : Jvm.MethodName)) ∈ TBG := inTBG (i := 445) (by decide +kernel) (by decide +kernel)
theorem q_446 : (Jvm.Cond.selects "WindJump$Law" ({ cls := "WindJump$Law", name := "fillUntold", desc := "(I)V" } : Jvm.MethodName) ({ cls := "WindJump$Law", name := "fillUntold", desc := "(I)V" } : Jvm.MethodName)) ∈ TBG := inTBG (i := 446) (by decide +kernel) (by decide +kernel)
theorem q_447 : (Jvm.Cond.code ({ cls := "WindJump$Law", name := "fillUntold", desc := "(I)V" } : Jvm.MethodName) prog_4_method_5_code (2 : Nat) (Option.none : Option Jvm.ClassFile.FieldType)) ∈ TBG := inTBG (i := 447) (by decide +kernel) (by decide +kernel)
theorem q_448 : (Jvm.Cond.methodLink "WindJump$Law" (34 : Nat) ({ cls := "WindJump$Law", name := "add", desc := "(II)V" } : Jvm.MethodName)) ∈ TBG := inTBG (i := 448) (by decide +kernel) (by decide +kernel)
theorem q_449 : (Jvm.Cond.instanceMethod ({ cls := "WindJump$Law", name := "add", desc := "(II)V" } : Jvm.MethodName)) ∈ TBG := inTBG (i := 449) (by decide +kernel) (by decide +kernel)
theorem q_450 : (Jvm.Cond.selects "WindJump$Law" ({ cls := "WindJump$Law", name := "add", desc := "(II)V" } : Jvm.MethodName) ({ cls := "WindJump$Law", name := "add", desc := "(II)V" } : Jvm.MethodName)) ∈ TBG := inTBG (i := 450) (by decide +kernel) (by decide +kernel)
theorem q_451 : (Jvm.Cond.code ({ cls := "WindJump$Law", name := "add", desc := "(II)V" } : Jvm.MethodName) prog_4_method_3_code (3 : Nat) (Option.none : Option Jvm.ClassFile.FieldType)) ∈ TBG := inTBG (i := 451) (by decide +kernel) (by decide +kernel)
theorem q_452 : (Jvm.Cond.methodLink "WindJump$Law" (38 : Nat) ({ cls := "WindJump$Law", name := "endPiece", desc := "()V" } : Jvm.MethodName)) ∈ TBG := inTBG (i := 452) (by decide +kernel) (by decide +kernel)
theorem q_453 : (Jvm.Cond.instanceMethod ({ cls := "WindJump$Law", name := "endPiece", desc := "()V" } : Jvm.MethodName)) ∈ TBG := inTBG (i := 453) (by decide +kernel) (by decide +kernel)
theorem q_454 : (Jvm.Cond.selects "WindJump$Law" ({ cls := "WindJump$Law", name := "endPiece", desc := "()V" } : Jvm.MethodName) ({ cls := "WindJump$Law", name := "endPiece", desc := "()V" } : Jvm.MethodName)) ∈ TBG := inTBG (i := 454) (by decide +kernel) (by decide +kernel)
theorem q_455 : (Jvm.Cond.code ({ cls := "WindJump$Law", name := "endPiece", desc := "()V" } : Jvm.MethodName) prog_4_method_4_code (1 : Nat) (Option.none : Option Jvm.ClassFile.FieldType)) ∈ TBG := inTBG (i := 455) (by decide +kernel) (by decide +kernel)
theorem q_520 : (Jvm.Cond.instanceMethod ({ cls := "WindJump$Tape", name := "hasRoom", desc := "(I)Z" } : Jvm.MethodName)) ∈ TBG := inTBG (i := 520) (by decide +kernel) (by decide +kernel)
theorem q_521 : (Jvm.Cond.selects "WindJump$Tape" ({ cls := "WindJump$Tape", name := "hasRoom", desc := "(I)Z" } : Jvm.MethodName) ({ cls := "WindJump$Tape", name := "hasRoom", desc := "(I)Z" } : Jvm.MethodName)) ∈ TBG := inTBG (i := 521) (by decide +kernel) (by decide +kernel)
theorem q_522 : (Jvm.Cond.code ({ cls := "WindJump$Tape", name := "hasRoom", desc := "(I)Z" } : Jvm.MethodName) prog_9_method_2_code (2 : Nat) (Option.some Jvm.ClassFile.FieldType.boolean)) ∈ TBG := inTBG (i := 522) (by decide +kernel) (by decide +kernel)
theorem q_524 : (Jvm.Cond.instanceMethod ({ cls := "WindJump$Tape", name := "put", desc := "(I)V" } : Jvm.MethodName)) ∈ TBG := inTBG (i := 524) (by decide +kernel) (by decide +kernel)
theorem q_525 : (Jvm.Cond.selects "WindJump$Tape" ({ cls := "WindJump$Tape", name := "put", desc := "(I)V" } : Jvm.MethodName) ({ cls := "WindJump$Tape", name := "put", desc := "(I)V" } : Jvm.MethodName)) ∈ TBG := inTBG (i := 525) (by decide +kernel) (by decide +kernel)
theorem q_526 : (Jvm.Cond.code ({ cls := "WindJump$Tape", name := "put", desc := "(I)V" } : Jvm.MethodName) prog_9_method_3_code (3 : Nat) (Option.none : Option Jvm.ClassFile.FieldType)) ∈ TBG := inTBG (i := 526) (by decide +kernel) (by decide +kernel)
theorem q_527 : (Jvm.Cond.methodLink "WindJump$Tape" (19 : Nat) ({ cls := "WindJump$Tape", name := "hasRoom", desc := "(I)Z" } : Jvm.MethodName)) ∈ TBG := inTBG (i := 527) (by decide +kernel) (by decide +kernel)
theorem q_548 : (Jvm.Cond.instanceMethod ({ cls := "WindJump$Tape", name := "byteAt", desc := "(I)I" } : Jvm.MethodName)) ∈ TBG := inTBG (i := 548) (by decide +kernel) (by decide +kernel)
theorem q_549 : (Jvm.Cond.selects "WindJump$Tape" ({ cls := "WindJump$Tape", name := "byteAt", desc := "(I)I" } : Jvm.MethodName) ({ cls := "WindJump$Tape", name := "byteAt", desc := "(I)I" } : Jvm.MethodName)) ∈ TBG := inTBG (i := 549) (by decide +kernel) (by decide +kernel)
theorem q_550 : (Jvm.Cond.code ({ cls := "WindJump$Tape", name := "byteAt", desc := "(I)I" } : Jvm.MethodName) prog_9_method_4_code (2 : Nat) (Option.some Jvm.ClassFile.FieldType.int)) ∈ TBG := inTBG (i := 550) (by decide +kernel) (by decide +kernel)
theorem q_699 : (Jvm.Cond.instanceMethod ({ cls := "WindJump$People", name := "isFull", desc := "(I)Z" } : Jvm.MethodName)) ∈ TBG := inTBG (i := 699) (by decide +kernel) (by decide +kernel)
theorem q_700 : (Jvm.Cond.selects "WindJump$People" ({ cls := "WindJump$People", name := "isFull", desc := "(I)Z" } : Jvm.MethodName) ({ cls := "WindJump$People", name := "isFull", desc := "(I)Z" } : Jvm.MethodName)) ∈ TBG := inTBG (i := 700) (by decide +kernel) (by decide +kernel)
theorem q_701 : (Jvm.Cond.code ({ cls := "WindJump$People", name := "isFull", desc := "(I)Z" } : Jvm.MethodName) prog_6_method_3_code (2 : Nat) (Option.some Jvm.ClassFile.FieldType.boolean)) ∈ TBG := inTBG (i := 701) (by decide +kernel) (by decide +kernel)
theorem q_755 : (Jvm.Cond.instanceMethod ({ cls := "WindJump$People", name := "addMan", desc := "(IIII)V" } : Jvm.MethodName)) ∈ TBG := inTBG (i := 755) (by decide +kernel) (by decide +kernel)
theorem q_756 : (Jvm.Cond.selects "WindJump$People" ({ cls := "WindJump$People", name := "addMan", desc := "(IIII)V" } : Jvm.MethodName) ({ cls := "WindJump$People", name := "addMan", desc := "(IIII)V" } : Jvm.MethodName)) ∈ TBG := inTBG (i := 756) (by decide +kernel) (by decide +kernel)
theorem q_757 : (Jvm.Cond.code ({ cls := "WindJump$People", name := "addMan", desc := "(IIII)V" } : Jvm.MethodName) prog_6_method_4_code (5 : Nat) (Option.none : Option Jvm.ClassFile.FieldType)) ∈ TBG := inTBG (i := 757) (by decide +kernel) (by decide +kernel)
theorem q_763 : (Jvm.Cond.instanceMethod ({ cls := "WindJump$People", name := "addJudge", desc := "(II)V" } : Jvm.MethodName)) ∈ TBG := inTBG (i := 763) (by decide +kernel) (by decide +kernel)
theorem q_764 : (Jvm.Cond.selects "WindJump$People" ({ cls := "WindJump$People", name := "addJudge", desc := "(II)V" } : Jvm.MethodName) ({ cls := "WindJump$People", name := "addJudge", desc := "(II)V" } : Jvm.MethodName)) ∈ TBG := inTBG (i := 764) (by decide +kernel) (by decide +kernel)
theorem q_765 : (Jvm.Cond.code ({ cls := "WindJump$People", name := "addJudge", desc := "(II)V" } : Jvm.MethodName) prog_6_method_5_code (3 : Nat) (Option.none : Option Jvm.ClassFile.FieldType)) ∈ TBG := inTBG (i := 765) (by decide +kernel) (by decide +kernel)
theorem q_792 : (Jvm.Cond.instanceMethod ({ cls := "WindJump$Law", name := "set", desc := "(II)V" } : Jvm.MethodName)) ∈ TBG := inTBG (i := 792) (by decide +kernel) (by decide +kernel)
theorem q_793 : (Jvm.Cond.selects "WindJump$Law" ({ cls := "WindJump$Law", name := "set", desc := "(II)V" } : Jvm.MethodName) ({ cls := "WindJump$Law", name := "set", desc := "(II)V" } : Jvm.MethodName)) ∈ TBG := inTBG (i := 793) (by decide +kernel) (by decide +kernel)
theorem q_794 : (Jvm.Cond.code ({ cls := "WindJump$Law", name := "set", desc := "(II)V" } : Jvm.MethodName) prog_4_method_6_code (3 : Nat) (Option.none : Option Jvm.ClassFile.FieldType)) ∈ TBG := inTBG (i := 794) (by decide +kernel) (by decide +kernel)
theorem q_804 : (Jvm.Cond.instanceMethod ({ cls := "WindJump$Law", name := "tells", desc := "()I" } : Jvm.MethodName)) ∈ TBG := inTBG (i := 804) (by decide +kernel) (by decide +kernel)
theorem q_805 : (Jvm.Cond.selects "WindJump$Law" ({ cls := "WindJump$Law", name := "tells", desc := "()I" } : Jvm.MethodName) ({ cls := "WindJump$Law", name := "tells", desc := "()I" } : Jvm.MethodName)) ∈ TBG := inTBG (i := 805) (by decide +kernel) (by decide +kernel)
theorem q_806 : (Jvm.Cond.code ({ cls := "WindJump$Law", name := "tells", desc := "()I" } : Jvm.MethodName) prog_4_method_7_code (4 : Nat) (Option.some Jvm.ClassFile.FieldType.int)) ∈ TBG := inTBG (i := 806) (by decide +kernel) (by decide +kernel)
theorem q_807 : (Jvm.Cond.methodLink "WindJump$Law" (45 : Nat) ({ cls := "WindJump$Law", name := "worth", desc := "(I)I" } : Jvm.MethodName)) ∈ TBG := inTBG (i := 807) (by decide +kernel) (by decide +kernel)
theorem q_809 : (Jvm.Cond.instanceMethod ({ cls := "WindJump$Law", name := "worth", desc := "(I)I" } : Jvm.MethodName)) ∈ TBG := inTBG (i := 809) (by decide +kernel) (by decide +kernel)
theorem q_810 : (Jvm.Cond.code ({ cls := "WindJump$Law", name := "worth", desc := "(I)I" } : Jvm.MethodName) prog_4_method_8_code (4 : Nat) (Option.some Jvm.ClassFile.FieldType.int)) ∈ TBG := inTBG (i := 810) (by decide +kernel) (by decide +kernel)
theorem q_811 : (Jvm.Cond.methodLink "WindJump$Law" (49 : Nat) ({ cls := "WindJump$Law", name := "joined", desc := "(III)I" } : Jvm.MethodName)) ∈ TBG := inTBG (i := 811) (by decide +kernel) (by decide +kernel)
theorem q_813 : (Jvm.Cond.instanceMethod ({ cls := "WindJump$Law", name := "joined", desc := "(III)I" } : Jvm.MethodName)) ∈ TBG := inTBG (i := 813) (by decide +kernel) (by decide +kernel)
theorem q_814 : (Jvm.Cond.code ({ cls := "WindJump$Law", name := "joined", desc := "(III)I" } : Jvm.MethodName) prog_4_method_9_code (4 : Nat) (Option.some Jvm.ClassFile.FieldType.int)) ∈ TBG := inTBG (i := 814) (by decide +kernel) (by decide +kernel)
theorem q_1132 : (Jvm.Cond.instanceMethod ({ cls := "WindJump$Told", name := "add", desc := "(III)I" } : Jvm.MethodName)) ∈ TBG := inTBG (i := 1132) (by decide +kernel) (by decide +kernel)
theorem q_1133 : (Jvm.Cond.selects "WindJump$Told" ({ cls := "WindJump$Told", name := "add", desc := "(III)I" } : Jvm.MethodName) ({ cls := "WindJump$Told", name := "add", desc := "(III)I" } : Jvm.MethodName)) ∈ TBG := inTBG (i := 1133) (by decide +kernel) (by decide +kernel)
theorem q_1134 : (Jvm.Cond.code ({ cls := "WindJump$Told", name := "add", desc := "(III)I" } : Jvm.MethodName) prog_12_method_2_code (4 : Nat) (Option.some Jvm.ClassFile.FieldType.int)) ∈ TBG := inTBG (i := 1134) (by decide +kernel) (by decide +kernel)
def isArr (a t n : Nat) : Prop := SK a = t ∧ SL a = n ∧ a < 150
def isLaw (k : Nat) : Prop := SK k = 2 ∧ k < 150 ∧ SR k 0 = some (k + 1) ∧ SR k 1 = some (k + 2) ∧ SR k 2 = some (k + 3) ∧ SR k 3 = some (k + 4) ∧ SR k 4 = some (k + 5) ∧ SR k 5 = none ∧ SR k 6 = none ∧ SR k 7 = none ∧ isArr (k + 1) 14 400 ∧ isArr (k + 2) 14 400 ∧ isArr (k + 3) 14 13 ∧ isArr (k + 4) 14 11 ∧ isArr (k + 5) 14 16
theorem Law_r0 {k : Nat} (h : isLaw k) : SR k 0 = some (k + 1) := h.2.2.1
theorem Law_r1 {k : Nat} (h : isLaw k) : SR k 1 = some (k + 2) := h.2.2.2.1
theorem Law_r2 {k : Nat} (h : isLaw k) : SR k 2 = some (k + 3) := h.2.2.2.2.1
theorem Law_r3 {k : Nat} (h : isLaw k) : SR k 3 = some (k + 4) := h.2.2.2.2.2.1
theorem Law_r4 {k : Nat} (h : isLaw k) : SR k 4 = some (k + 5) := h.2.2.2.2.2.2.1
theorem Law_r5 {k : Nat} (h : isLaw k) : SR k 5 = none := h.2.2.2.2.2.2.2.1
theorem Law_r6 {k : Nat} (h : isLaw k) : SR k 6 = none := h.2.2.2.2.2.2.2.2.1
theorem Law_r7 {k : Nat} (h : isLaw k) : SR k 7 = none := h.2.2.2.2.2.2.2.2.2.1
theorem Law_s0 {k : Nat} (h : isLaw k) : isArr (k + 1) 14 400 := h.2.2.2.2.2.2.2.2.2.2.1
theorem Law_s1 {k : Nat} (h : isLaw k) : isArr (k + 2) 14 400 := h.2.2.2.2.2.2.2.2.2.2.2.1
theorem Law_s2 {k : Nat} (h : isLaw k) : isArr (k + 3) 14 13 := h.2.2.2.2.2.2.2.2.2.2.2.2.1
theorem Law_s3 {k : Nat} (h : isLaw k) : isArr (k + 4) 14 11 := h.2.2.2.2.2.2.2.2.2.2.2.2.2.1
theorem Law_s4 {k : Nat} (h : isLaw k) : isArr (k + 5) 14 16 := h.2.2.2.2.2.2.2.2.2.2.2.2.2.2
theorem inst_Law_10 : isLaw 10 := by
  unfold isLaw isArr
  decide
theorem inst_Law_16 : isLaw 16 := by
  unfold isLaw isArr
  decide
theorem inst_Law_22 : isLaw 22 := by
  unfold isLaw isArr
  decide
theorem inst_Law_28 : isLaw 28 := by
  unfold isLaw isArr
  decide
theorem inst_Law_34 : isLaw 34 := by
  unfold isLaw isArr
  decide
theorem inst_Law_49 : isLaw 49 := by
  unfold isLaw isArr
  decide
theorem inst_Law_55 : isLaw 55 := by
  unfold isLaw isArr
  decide
theorem inst_Law_61 : isLaw 61 := by
  unfold isLaw isArr
  decide
theorem inst_Law_67 : isLaw 67 := by
  unfold isLaw isArr
  decide
theorem inst_Law_73 : isLaw 73 := by
  unfold isLaw isArr
  decide
def isPeople (k : Nat) : Prop := SK k = 4 ∧ k < 150 ∧ SR k 0 = some (k + 1) ∧ SR k 1 = some (k + 2) ∧ SR k 2 = some (k + 3) ∧ SR k 3 = some (k + 4) ∧ SR k 4 = some (k + 5) ∧ SR k 5 = some (k + 6) ∧ SR k 6 = none ∧ SR k 7 = none ∧ isArr (k + 1) 14 8 ∧ isArr (k + 2) 14 8 ∧ isArr (k + 3) 14 8 ∧ isArr (k + 4) 14 8 ∧ isArr (k + 5) 14 7 ∧ isArr (k + 6) 14 7
theorem People_r0 {k : Nat} (h : isPeople k) : SR k 0 = some (k + 1) := h.2.2.1
theorem People_r1 {k : Nat} (h : isPeople k) : SR k 1 = some (k + 2) := h.2.2.2.1
theorem People_r2 {k : Nat} (h : isPeople k) : SR k 2 = some (k + 3) := h.2.2.2.2.1
theorem People_r3 {k : Nat} (h : isPeople k) : SR k 3 = some (k + 4) := h.2.2.2.2.2.1
theorem People_r4 {k : Nat} (h : isPeople k) : SR k 4 = some (k + 5) := h.2.2.2.2.2.2.1
theorem People_r5 {k : Nat} (h : isPeople k) : SR k 5 = some (k + 6) := h.2.2.2.2.2.2.2.1
theorem People_r6 {k : Nat} (h : isPeople k) : SR k 6 = none := h.2.2.2.2.2.2.2.2.1
theorem People_r7 {k : Nat} (h : isPeople k) : SR k 7 = none := h.2.2.2.2.2.2.2.2.2.1
theorem People_s0 {k : Nat} (h : isPeople k) : isArr (k + 1) 14 8 := h.2.2.2.2.2.2.2.2.2.2.1
theorem People_s1 {k : Nat} (h : isPeople k) : isArr (k + 2) 14 8 := h.2.2.2.2.2.2.2.2.2.2.2.1
theorem People_s2 {k : Nat} (h : isPeople k) : isArr (k + 3) 14 8 := h.2.2.2.2.2.2.2.2.2.2.2.2.1
theorem People_s3 {k : Nat} (h : isPeople k) : isArr (k + 4) 14 8 := h.2.2.2.2.2.2.2.2.2.2.2.2.2.1
theorem People_s4 {k : Nat} (h : isPeople k) : isArr (k + 5) 14 7 := h.2.2.2.2.2.2.2.2.2.2.2.2.2.2.1
theorem People_s5 {k : Nat} (h : isPeople k) : isArr (k + 6) 14 7 := h.2.2.2.2.2.2.2.2.2.2.2.2.2.2.2
theorem inst_People_41 : isPeople 41 := by
  unfold isPeople isArr
  decide
theorem inst_People_80 : isPeople 80 := by
  unfold isPeople isArr
  decide
def isText (k : Nat) : Prop := SK k = 8 ∧ k < 150 ∧ SR k 0 = some (k + 1) ∧ SR k 1 = some (k + 7) ∧ SR k 2 = some (k + 13) ∧ SR k 3 = some (k + 19) ∧ SR k 4 = some (k + 25) ∧ SR k 5 = some (k + 31) ∧ SR k 6 = some (k + 32) ∧ SR k 7 = none ∧ SR k 8 = none ∧ SR k 9 = none ∧ SR k 10 = none ∧ SR k 11 = none ∧ SR k 12 = none ∧ SR k 13 = none ∧ SR k 14 = none ∧ SR k 15 = none ∧ SR k 16 = none ∧ SR k 17 = none ∧ isLaw (k + 1) ∧ isLaw (k + 7) ∧ isLaw (k + 13) ∧ isLaw (k + 19) ∧ isLaw (k + 25) ∧ isArr (k + 31) 14 5 ∧ isPeople (k + 32)
theorem Text_r0 {k : Nat} (h : isText k) : SR k 0 = some (k + 1) := h.2.2.1
theorem Text_r1 {k : Nat} (h : isText k) : SR k 1 = some (k + 7) := h.2.2.2.1
theorem Text_r2 {k : Nat} (h : isText k) : SR k 2 = some (k + 13) := h.2.2.2.2.1
theorem Text_r3 {k : Nat} (h : isText k) : SR k 3 = some (k + 19) := h.2.2.2.2.2.1
theorem Text_r4 {k : Nat} (h : isText k) : SR k 4 = some (k + 25) := h.2.2.2.2.2.2.1
theorem Text_r5 {k : Nat} (h : isText k) : SR k 5 = some (k + 31) := h.2.2.2.2.2.2.2.1
theorem Text_r6 {k : Nat} (h : isText k) : SR k 6 = some (k + 32) := h.2.2.2.2.2.2.2.2.1
theorem Text_r7 {k : Nat} (h : isText k) : SR k 7 = none := h.2.2.2.2.2.2.2.2.2.1
theorem Text_r8 {k : Nat} (h : isText k) : SR k 8 = none := h.2.2.2.2.2.2.2.2.2.2.1
theorem Text_r9 {k : Nat} (h : isText k) : SR k 9 = none := h.2.2.2.2.2.2.2.2.2.2.2.1
theorem Text_r10 {k : Nat} (h : isText k) : SR k 10 = none := h.2.2.2.2.2.2.2.2.2.2.2.2.1
theorem Text_r11 {k : Nat} (h : isText k) : SR k 11 = none := h.2.2.2.2.2.2.2.2.2.2.2.2.2.1
theorem Text_r12 {k : Nat} (h : isText k) : SR k 12 = none := h.2.2.2.2.2.2.2.2.2.2.2.2.2.2.1
theorem Text_r13 {k : Nat} (h : isText k) : SR k 13 = none := h.2.2.2.2.2.2.2.2.2.2.2.2.2.2.2.1
theorem Text_r14 {k : Nat} (h : isText k) : SR k 14 = none := h.2.2.2.2.2.2.2.2.2.2.2.2.2.2.2.2.1
theorem Text_r15 {k : Nat} (h : isText k) : SR k 15 = none := h.2.2.2.2.2.2.2.2.2.2.2.2.2.2.2.2.2.1
theorem Text_r16 {k : Nat} (h : isText k) : SR k 16 = none := h.2.2.2.2.2.2.2.2.2.2.2.2.2.2.2.2.2.2.1
theorem Text_r17 {k : Nat} (h : isText k) : SR k 17 = none := h.2.2.2.2.2.2.2.2.2.2.2.2.2.2.2.2.2.2.2.1
theorem Text_s0 {k : Nat} (h : isText k) : isLaw (k + 1) := h.2.2.2.2.2.2.2.2.2.2.2.2.2.2.2.2.2.2.2.2.1
theorem Text_s1 {k : Nat} (h : isText k) : isLaw (k + 7) := h.2.2.2.2.2.2.2.2.2.2.2.2.2.2.2.2.2.2.2.2.2.1
theorem Text_s2 {k : Nat} (h : isText k) : isLaw (k + 13) := h.2.2.2.2.2.2.2.2.2.2.2.2.2.2.2.2.2.2.2.2.2.2.1
theorem Text_s3 {k : Nat} (h : isText k) : isLaw (k + 19) := h.2.2.2.2.2.2.2.2.2.2.2.2.2.2.2.2.2.2.2.2.2.2.2.1
theorem Text_s4 {k : Nat} (h : isText k) : isLaw (k + 25) := h.2.2.2.2.2.2.2.2.2.2.2.2.2.2.2.2.2.2.2.2.2.2.2.2.1
theorem Text_s5 {k : Nat} (h : isText k) : isArr (k + 31) 14 5 := h.2.2.2.2.2.2.2.2.2.2.2.2.2.2.2.2.2.2.2.2.2.2.2.2.2.1
theorem Text_s6 {k : Nat} (h : isText k) : isPeople (k + 32) := h.2.2.2.2.2.2.2.2.2.2.2.2.2.2.2.2.2.2.2.2.2.2.2.2.2.2
theorem inst_Text_9 : isText 9 := ⟨rfl, by decide, rfl, rfl, rfl, rfl, rfl, rfl, rfl, rfl, rfl, rfl, rfl, rfl, rfl, rfl, rfl, rfl, rfl, rfl, inst_Law_10, inst_Law_16, inst_Law_22, inst_Law_28, inst_Law_34, ⟨rfl, rfl, by decide⟩, inst_People_41⟩
theorem inst_Text_48 : isText 48 := ⟨rfl, by decide, rfl, rfl, rfl, rfl, rfl, rfl, rfl, rfl, rfl, rfl, rfl, rfl, rfl, rfl, rfl, rfl, rfl, rfl, inst_Law_49, inst_Law_55, inst_Law_61, inst_Law_67, inst_Law_73, ⟨rfl, rfl, by decide⟩, inst_People_80⟩
def isPlay (k : Nat) : Prop := SK k = 5 ∧ k < 150 ∧ SR k 0 = some 48 ∧ SR k 1 = some (k + 1) ∧ SR k 2 = some (k + 2) ∧ SR k 3 = some (k + 3) ∧ SR k 4 = none ∧ SR k 5 = none ∧ SR k 6 = none ∧ SR k 7 = none ∧ SR k 8 = none ∧ isArr (k + 1) 14 8 ∧ isArr (k + 2) 14 8 ∧ isArr (k + 3) 14 256
theorem Play_r0 {k : Nat} (h : isPlay k) : SR k 0 = some 48 := h.2.2.1
theorem Play_r1 {k : Nat} (h : isPlay k) : SR k 1 = some (k + 1) := h.2.2.2.1
theorem Play_r2 {k : Nat} (h : isPlay k) : SR k 2 = some (k + 2) := h.2.2.2.2.1
theorem Play_r3 {k : Nat} (h : isPlay k) : SR k 3 = some (k + 3) := h.2.2.2.2.2.1
theorem Play_r4 {k : Nat} (h : isPlay k) : SR k 4 = none := h.2.2.2.2.2.2.1
theorem Play_r5 {k : Nat} (h : isPlay k) : SR k 5 = none := h.2.2.2.2.2.2.2.1
theorem Play_r6 {k : Nat} (h : isPlay k) : SR k 6 = none := h.2.2.2.2.2.2.2.2.1
theorem Play_r7 {k : Nat} (h : isPlay k) : SR k 7 = none := h.2.2.2.2.2.2.2.2.2.1
theorem Play_r8 {k : Nat} (h : isPlay k) : SR k 8 = none := h.2.2.2.2.2.2.2.2.2.2.1
theorem Play_s1 {k : Nat} (h : isPlay k) : isArr (k + 1) 14 8 := h.2.2.2.2.2.2.2.2.2.2.2.1
theorem Play_s2 {k : Nat} (h : isPlay k) : isArr (k + 2) 14 8 := h.2.2.2.2.2.2.2.2.2.2.2.2.1
theorem Play_s3 {k : Nat} (h : isPlay k) : isArr (k + 3) 14 256 := h.2.2.2.2.2.2.2.2.2.2.2.2.2
theorem inst_Play_89 : isPlay 89 := by
  unfold isPlay isArr
  decide
theorem inst_Play_93 : isPlay 93 := by
  unfold isPlay isArr
  decide
theorem grid_98 : ∀ j, j < 40 → SR 98 j = some (99 + j) := by decide
theorem gridr_98 : ∀ j, j < 40 → SK (99 + j) = 14 ∧ SL (99 + j) = 277 ∧ 99 + j < 150 := by decide
theorem grid_140 : ∀ j, j < 3 → SR 140 j = some (141 + j) := by decide
theorem gridr_140 : ∀ j, j < 3 → SK (141 + j) = 14 ∧ SL (141 + j) = 277 ∧ 141 + j < 150 := by decide
theorem vin_lt {i : Int32} {n : Nat} (h : vp_in i n) : ix i < n := Nat.not_le.mp fun q => h (Or.inr q)
theorem vpl {i : Int32} {n : Nat} (h : ¬ (i < 0 ∨ n ≤ i.toNatClampNeg)) : vp_in i n := h
theorem tne {x v : Int32} {z : Int} (h : ¬ x = v) (hv : v.toInt = z) : x.toInt ≠ z := fun q => h (Int32.toInt_inj.mp (q.trans hv.symm))
set_option maxRecDepth 20000 in
theorem uin_0 : ∀ z ∈ u_ws RX0 TX0 8, z ∈ TBG := by
  intro z hz
  have h : u_ws RX0 TX0 8 = [312, 314, 316, 318, 320, 322, 324, 326].filterMap (fun i => tables_1[i]?) := by decide +kernel
  have g : (u_ws RX0 TX0 8).all goodWord = true := by decide +kernel
  have h1 := hz
  rw [h] at h1
  obtain ⟨i, -, hi⟩ := List.mem_filterMap.mp h1
  exact inTBG hi (List.all_eq_true.mp g z hz)
set_option maxRecDepth 20000 in
theorem uin_1 : ∀ z ∈ u_ws RX1 TX1 3, z ∈ TBG := by
  intro z hz
  have h : u_ws RX1 TX1 3 = [380, 382, 384].filterMap (fun i => tables_1[i]?) := by decide +kernel
  have g : (u_ws RX1 TX1 3).all goodWord = true := by decide +kernel
  have h1 := hz
  rw [h] at h1
  obtain ⟨i, -, hi⟩ := List.mem_filterMap.mp h1
  exact inTBG hi (List.all_eq_true.mp g z hz)
set_option maxRecDepth 20000 in
theorem uin_2 : ∀ z ∈ u_ws RX2 TX2 8, z ∈ TBG := by
  intro z hz
  have h : u_ws RX2 TX2 8 = [128, 130, 132, 134, 136, 138, 140, 142].filterMap (fun i => tables_1[i]?) := by decide +kernel
  have g : (u_ws RX2 TX2 8).all goodWord = true := by decide +kernel
  have h1 := hz
  rw [h] at h1
  obtain ⟨i, -, hi⟩ := List.mem_filterMap.mp h1
  exact inTBG hi (List.all_eq_true.mp g z hz)
set_option maxRecDepth 20000 in
theorem uin_3 : ∀ z ∈ u_ws RX3 TX3 9, z ∈ TBG := by
  intro z hz
  have h : u_ws RX3 TX3 9 = [88, 90, 92, 94, 96, 98, 100, 102, 104].filterMap (fun i => tables_1[i]?) := by decide +kernel
  have g : (u_ws RX3 TX3 9).all goodWord = true := by decide +kernel
  have h1 := hz
  rw [h] at h1
  obtain ⟨i, -, hi⟩ := List.mem_filterMap.mp h1
  exact inTBG hi (List.all_eq_true.mp g z hz)
set_option maxRecDepth 20000 in
theorem uin_4 : ∀ z ∈ u_ws RX4 TX4 8, z ∈ TBG := by
  intro z hz
  have h : u_ws RX4 TX4 8 = [172, 174, 176, 178, 180, 182, 184, 186].filterMap (fun i => tables_1[i]?) := by decide +kernel
  have g : (u_ws RX4 TX4 8).all goodWord = true := by decide +kernel
  have h1 := hz
  rw [h] at h1
  obtain ⟨i, -, hi⟩ := List.mem_filterMap.mp h1
  exact inTBG hi (List.all_eq_true.mp g z hz)
set_option maxRecDepth 20000 in
theorem uin_5 : ∀ z ∈ u_ws RX5 TX5 9, z ∈ TBG := by
  intro z hz
  have h : u_ws RX5 TX5 9 = [349, 351, 353, 355, 357, 359, 361, 363, 365].filterMap (fun i => tables_1[i]?) := by decide +kernel
  have g : (u_ws RX5 TX5 9).all goodWord = true := by decide +kernel
  have h1 := hz
  rw [h] at h1
  obtain ⟨i, -, hi⟩ := List.mem_filterMap.mp h1
  exact inTBG hi (List.all_eq_true.mp g z hz)
set_option maxRecDepth 20000 in
theorem uin_6 : ∀ z ∈ u_ws RX6 TX6 2, z ∈ TBG := by
  intro z hz
  have h : u_ws RX6 TX6 2 = [396, 398].filterMap (fun i => tables_1[i]?) := by decide +kernel
  have g : (u_ws RX6 TX6 2).all goodWord = true := by decide +kernel
  have h1 := hz
  rw [h] at h1
  obtain ⟨i, -, hi⟩ := List.mem_filterMap.mp h1
  exact inTBG hi (List.all_eq_true.mp g z hz)
set_option maxRecDepth 20000 in
theorem uin_7 : ∀ z ∈ u_ws RX7 TX7 2, z ∈ TBG := by
  intro z hz
  have h : u_ws RX7 TX7 2 = [40, 42].filterMap (fun i => tables_1[i]?) := by decide +kernel
  have g : (u_ws RX7 TX7 2).all goodWord = true := by decide +kernel
  have h1 := hz
  rw [h] at h1
  obtain ⟨i, -, hi⟩ := List.mem_filterMap.mp h1
  exact inTBG hi (List.all_eq_true.mp g z hz)
set_option maxRecDepth 20000 in
theorem uin_8 : ∀ z ∈ u_ws RX8 TX8 18, z ∈ TBG := by
  intro z hz
  have h : u_ws RX8 TX8 18 = [250, 252, 254, 256, 258, 260, 262, 264, 266, 268, 270, 272, 274, 276, 278, 280, 282, 284].filterMap (fun i => tables_1[i]?) := by decide +kernel
  have g : (u_ws RX8 TX8 18).all goodWord = true := by decide +kernel
  have h1 := hz
  rw [h] at h1
  obtain ⟨i, -, hi⟩ := List.mem_filterMap.mp h1
  exact inTBG hi (List.all_eq_true.mp g z hz)
set_option maxRecDepth 20000 in
theorem uin_9 : ∀ z ∈ u_ws RX9 TX9 5, z ∈ TBG := by
  intro z hz
  have h : u_ws RX9 TX9 5 = [60, 62, 64, 66, 68].filterMap (fun i => tables_1[i]?) := by decide +kernel
  have g : (u_ws RX9 TX9 5).all goodWord = true := by decide +kernel
  have h1 := hz
  rw [h] at h1
  obtain ⟨i, -, hi⟩ := List.mem_filterMap.mp h1
  exact inTBG hi (List.all_eq_true.mp g z hz)
set_option maxRecDepth 20000 in
theorem uin_10 : ∀ z ∈ u_ws RX10 TX10 4, z ∈ TBG := by
  intro z hz
  have h : u_ws RX10 TX10 4 = [416, 418, 420, 422].filterMap (fun i => tables_1[i]?) := by decide +kernel
  have g : (u_ws RX10 TX10 4).all goodWord = true := by decide +kernel
  have h1 := hz
  rw [h] at h1
  obtain ⟨i, -, hi⟩ := List.mem_filterMap.mp h1
  exact inTBG hi (List.all_eq_true.mp g z hz)
set_option maxRecDepth 20000 in
theorem uin_11 : ∀ z ∈ u_ws RX11 TX11 13, z ∈ TBG := by
  intro z hz
  have h : u_ws RX11 TX11 13 = [488, 490, 492, 494, 496, 498, 500, 502, 504, 506, 508, 510, 512].filterMap (fun i => tables_1[i]?) := by decide +kernel
  have g : (u_ws RX11 TX11 13).all goodWord = true := by decide +kernel
  have h1 := hz
  rw [h] at h1
  obtain ⟨i, -, hi⟩ := List.mem_filterMap.mp h1
  exact inTBG hi (List.all_eq_true.mp g z hz)
set_option maxRecDepth 20000 in
theorem uin_12 : ∀ z ∈ u_ws RX12 TX12 72, z ∈ TBG := by
  intro z hz
  have h : u_ws RX12 TX12 72 = [1286, 1288, 1290, 1292, 1294, 1296, 1298, 1300, 1302, 1304, 1306, 1308, 1310, 1312, 1314, 1316, 1318, 1320, 1322, 1324, 1326, 1328, 1330, 1332, 1334, 1336, 1338, 1340, 1342, 1344, 1346, 1348, 1350, 1352, 1354, 1356, 1358, 1360, 1362, 1364, 1366, 1368, 1370, 1372, 1374, 1376, 1378, 1380, 1382, 1384, 1386, 1388, 1390, 1392, 1394, 1396, 1398, 1400, 1402, 1404, 1406, 1408, 1410, 1412, 1414, 1416, 1418, 1420, 1422, 1424, 1426, 1428].filterMap (fun i => tables_1[i]?) := by decide +kernel
  have g : (u_ws RX12 TX12 72).all goodWord = true := by decide +kernel
  have h1 := hz
  rw [h] at h1
  obtain ⟨i, -, hi⟩ := List.mem_filterMap.mp h1
  exact inTBG hi (List.all_eq_true.mp g z hz)
