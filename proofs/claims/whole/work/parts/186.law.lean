-- printed by wip/whole/gen9.py
section
variable {p : Program} {l : Launch} {e : Env} {R : Room} {s : State} {m : MethodId} {args : Array Value} {below : List Frame} {meth : Method} {c : Code} {cc : ByteArray} {nL : Nat} {ad : Nat → Nat} {cy : Nat → ClassId} {D : va_G} {A : Nat → Prop} {H0 : Heap} {ce sl : Nat} {Qs : State → Prop} {wc wm : Mem} {wl0 : MemL} {pc : Nat} {ls : List (Nat × Value)} {st1 : List Value}
theorem q_515 : (Jvm.Cond.methodLink "WindJumpLaw" (13 : Nat) ({ cls := "WindJump", name := "feed", desc := "(IIIII)I" } : Jvm.MethodName)) ∈ TBG := inG3 (i := 35) rfl rfl
theorem q_528 : (Jvm.Cond.methodLink "WindJumpLaw" (18 : Nat) ({ cls := "WindJump", name := "back", desc := "(I)I" } : Jvm.MethodName)) ∈ TBG := inG3 (i := 48) rfl rfl
theorem q_535 : (Jvm.Cond.methodLink "WindJumpLaw" (23 : Nat) ({ cls := "WindJump", name := "read", desc := "()I" } : Jvm.MethodName)) ∈ TBG := inG3 (i := 55) rfl rfl
theorem q_771 : (Jvm.Cond.methodLink "WindJumpLaw" (28 : Nat) ({ cls := "WindJump", name := "place", desc := "()I" } : Jvm.MethodName)) ∈ TBG := inG4 (i := 51) rfl rfl
theorem q_775 : (Jvm.Cond.methodLink "WindJumpLaw" (32 : Nat) ({ cls := "WindJump", name := "now", desc := "(I)I" } : Jvm.MethodName)) ∈ TBG := inG4 (i := 55) rfl rfl
theorem q_820 : (Jvm.Cond.methodLink "WindJumpLaw" (36 : Nat) ({ cls := "WindJump", name := "wind", desc := "(II)I" } : Jvm.MethodName)) ∈ TBG := inG4 (i := 100) rfl rfl
theorem q_826 : (Jvm.Cond.methodLink "WindJumpLaw" (41 : Nat) ({ cls := "WindJump", name := "jump", desc := "(III)I" } : Jvm.MethodName)) ∈ TBG := inG4 (i := 106) rfl rfl
theorem q_843 : (Jvm.Cond.methodLink "WindJumpLaw" (46 : Nat) ({ cls := "WindJump", name := "mark", desc := "(III)I" } : Jvm.MethodName)) ∈ TBG := inG4 (i := 123) rfl rfl
theorem q_851 : (Jvm.Cond.methodLink "WindJumpLaw" (50 : Nat) ({ cls := "WindJump", name := "points", desc := "(I)I" } : Jvm.MethodName)) ∈ TBG := inG4 (i := 131) rfl rfl
theorem q_859 : (Jvm.Cond.methodLink "WindJumpLaw" (54 : Nat) ({ cls := "WindJump", name := "rank", desc := "(I)I" } : Jvm.MethodName)) ∈ TBG := inG4 (i := 139) rfl rfl
theorem q_870 : (Jvm.Cond.methodLink "WindJumpLaw" (58 : Nat) ({ cls := "WindJump", name := "ranked", desc := "(I)I" } : Jvm.MethodName)) ∈ TBG := inG4 (i := 150) rfl rfl
theorem q_879 : (Jvm.Cond.methodLink "WindJumpLaw" (62 : Nat) ({ cls := "WindJump", name := "start", desc := "(I)I" } : Jvm.MethodName)) ∈ TBG := inG4 (i := 159) rfl rfl
theorem q_950 : (Jvm.Cond.methodLink "WindJumpLaw" (66 : Nat) ({ cls := "WindJump", name := "letGo", desc := "(I)I" } : Jvm.MethodName)) ∈ TBG := inG4 (i := 230) rfl rfl
theorem q_954 : (Jvm.Cond.methodLink "WindJumpLaw" (70 : Nat) ({ cls := "WindJump", name := "gate", desc := "(I)Z" } : Jvm.MethodName)) ∈ TBG := inG4 (i := 234) rfl rfl
theorem q_961 : (Jvm.Cond.methodLink "WindJumpLaw" (75 : Nat) ({ cls := "WindJump", name := "pause", desc := "(I)I" } : Jvm.MethodName)) ∈ TBG := inG5 (i := 1) rfl rfl
theorem q_965 : (Jvm.Cond.methodLink "WindJumpLaw" (79 : Nat) ({ cls := "WindJump", name := "undo", desc := "()Z" } : Jvm.MethodName)) ∈ TBG := inG5 (i := 5) rfl rfl
theorem q_977 : (Jvm.Cond.methodLink "WindJumpLaw" (84 : Nat) ({ cls := "WindJump", name := "attempt", desc := "(IIII)I" } : Jvm.MethodName)) ∈ TBG := inG5 (i := 17) rfl rfl
theorem q_992 : (Jvm.Cond.methodLink "WindJumpLaw" (89 : Nat) ({ cls := "WindJump", name := "wait", desc := "(II)I" } : Jvm.MethodName)) ∈ TBG := inG5 (i := 32) rfl rfl
theorem q_996 : (Jvm.Cond.methodLink "WindJumpLaw" (93 : Nat) ({ cls := "WindJump", name := "cost", desc := "(IIZ)I" } : Jvm.MethodName)) ∈ TBG := inG5 (i := 36) rfl rfl
theorem q_1000 : (Jvm.Cond.methodLink "WindJumpLaw" (98 : Nat) ({ cls := "WindJump", name := "pound", desc := "(III)I" } : Jvm.MethodName)) ∈ TBG := inG5 (i := 40) rfl rfl
theorem q_1005 : (Jvm.Cond.methodLink "WindJumpLaw" (102 : Nat) ({ cls := "WindJump", name := "gain", desc := "(I)I" } : Jvm.MethodName)) ∈ TBG := inG5 (i := 45) rfl rfl
theorem q_1013 : (Jvm.Cond.methodLink "WindJumpLaw" (106 : Nat) ({ cls := "WindJump", name := "number", desc := "(I)I" } : Jvm.MethodName)) ∈ TBG := inG5 (i := 53) rfl rfl
theorem q_1017 : (Jvm.Cond.methodLink "WindJumpLaw" (110 : Nat) ({ cls := "WindJump", name := "gates", desc := "(I)I" } : Jvm.MethodName)) ∈ TBG := inG5 (i := 57) rfl rfl
theorem q_1029 : (Jvm.Cond.methodLink "WindJumpLaw" (114 : Nat) ({ cls := "WindJump", name := "crown", desc := "(II)I" } : Jvm.MethodName)) ∈ TBG := inG5 (i := 69) rfl rfl
theorem q_1037 : (Jvm.Cond.methodLink "WindJumpLaw" (118 : Nat) ({ cls := "WindJump", name := "without", desc := "(II)I" } : Jvm.MethodName)) ∈ TBG := inG5 (i := 77) rfl rfl
theorem q_1053 : (Jvm.Cond.methodLink "WindJumpLaw" (122 : Nat) ({ cls := "WindJump", name := "needs", desc := "(I)I" } : Jvm.MethodName)) ∈ TBG := inG5 (i := 93) rfl rfl
theorem q_1071 : (Jvm.Cond.methodLink "WindJumpLaw" (126 : Nat) ({ cls := "WindJump", name := "spread", desc := "(I)I" } : Jvm.MethodName)) ∈ TBG := inG5 (i := 111) rfl rfl
theorem q_1075 : (Jvm.Cond.methodLink "WindJumpLaw" (130 : Nat) ({ cls := "WindJump", name := "atGate", desc := "(IIZ)I" } : Jvm.MethodName)) ∈ TBG := inG5 (i := 115) rfl rfl
theorem q_1079 : (Jvm.Cond.methodLink "WindJumpLaw" (134 : Nat) ({ cls := "WindJump", name := "lead", desc := "(I)I" } : Jvm.MethodName)) ∈ TBG := inG5 (i := 119) rfl rfl
theorem q_1087 : (Jvm.Cond.methodLink "WindJumpLaw" (138 : Nat) ({ cls := "WindJump", name := "reversed", desc := "(I)I" } : Jvm.MethodName)) ∈ TBG := inG5 (i := 127) rfl rfl
theorem q_1095 : (Jvm.Cond.methodLink "WindJumpLaw" (142 : Nat) ({ cls := "WindJump", name := "harsh", desc := "(ZI)I" } : Jvm.MethodName)) ∈ TBG := inG5 (i := 135) rfl rfl
theorem q_1104 : (Jvm.Cond.methodLink "WindJumpLaw" (147 : Nat) ({ cls := "WindJump", name := "calm", desc := "(II)I" } : Jvm.MethodName)) ∈ TBG := inG5 (i := 144) rfl rfl
theorem q_1111 : (Jvm.Cond.methodLink "WindJumpLaw" (151 : Nat) ({ cls := "WindJump", name := "windiest", desc := "(I)I" } : Jvm.MethodName)) ∈ TBG := inG5 (i := 151) rfl rfl
theorem q_1115 : (Jvm.Cond.methodLink "WindJumpLaw" (155 : Nat) ({ cls := "WindJump", name := "progress", desc := "(I)I" } : Jvm.MethodName)) ∈ TBG := inG5 (i := 155) rfl rfl
theorem q_1119 : (Jvm.Cond.methodLink "WindJumpLaw" (159 : Nat) ({ cls := "WindJump", name := "himself", desc := "(I)I" } : Jvm.MethodName)) ∈ TBG := inG5 (i := 159) rfl rfl
theorem q_1127 : (Jvm.Cond.methodLink "WindJumpLaw" (163 : Nat) ({ cls := "WindJump", name := "tell", desc := "(III)I" } : Jvm.MethodName)) ∈ TBG := inG5 (i := 167) rfl rfl
theorem q_1135 : (Jvm.Cond.methodLink "WindJumpLaw" (167 : Nat) ({ cls := "WindJump", name := "forget", desc := "()I" } : Jvm.MethodName)) ∈ TBG := inG5 (i := 175) rfl rfl
theorem q_1139 : (Jvm.Cond.methodLink "WindJumpLaw" (171 : Nat) ({ cls := "WindJump", name := "slips", desc := "(III)I" } : Jvm.MethodName)) ∈ TBG := inG5 (i := 179) rfl rfl
theorem q_1147 : (Jvm.Cond.methodLink "WindJumpLaw" (175 : Nat) ({ cls := "WindJump", name := "hold", desc := "(I)Z" } : Jvm.MethodName)) ∈ TBG := inG5 (i := 187) rfl rfl
theorem q_1157 : (Jvm.Cond.methodLink "WindJumpLaw" (179 : Nat) ({ cls := "WindJump", name := "restore", desc := "(I)Z" } : Jvm.MethodName)) ∈ TBG := inG5 (i := 197) rfl rfl
theorem q_1166 : (Jvm.Cond.methodLink "WindJumpLaw" (183 : Nat) ({ cls := "WindJump", name := "count", desc := "(I)I" } : Jvm.MethodName)) ∈ TBG := inG5 (i := 206) rfl rfl
theorem q_1432 : (Jvm.Cond.methodLink "WindJumpLaw" (17 : Nat) ({ cls := "WindJumpModel", name := "feed", desc := "(IIIII)I" } : Jvm.MethodName)) ∈ TBG := inG6 (i := 232) rfl rfl
theorem q_1440 : (Jvm.Cond.methodLink "WindJumpLaw" (22 : Nat) ({ cls := "WindJumpModel", name := "back", desc := "(I)I" } : Jvm.MethodName)) ∈ TBG := inG7 (i := 0) rfl rfl
theorem q_1444 : (Jvm.Cond.methodLink "WindJumpLaw" (27 : Nat) ({ cls := "WindJumpModel", name := "read", desc := "()I" } : Jvm.MethodName)) ∈ TBG := inG7 (i := 4) rfl rfl
theorem q_1538 : (Jvm.Cond.methodLink "WindJumpLaw" (31 : Nat) ({ cls := "WindJumpModel", name := "place", desc := "()I" } : Jvm.MethodName)) ∈ TBG := inG7 (i := 98) rfl rfl
theorem q_1542 : (Jvm.Cond.methodLink "WindJumpLaw" (35 : Nat) ({ cls := "WindJumpModel", name := "now", desc := "(I)I" } : Jvm.MethodName)) ∈ TBG := inG7 (i := 102) rfl rfl
theorem q_1605 : (Jvm.Cond.methodLink "WindJumpLaw" (40 : Nat) ({ cls := "WindJumpModel", name := "wind", desc := "(II)I" } : Jvm.MethodName)) ∈ TBG := inG7 (i := 165) rfl rfl
theorem q_1613 : (Jvm.Cond.methodLink "WindJumpLaw" (45 : Nat) ({ cls := "WindJumpModel", name := "jump", desc := "(III)I" } : Jvm.MethodName)) ∈ TBG := inG7 (i := 173) rfl rfl
theorem q_1625 : (Jvm.Cond.methodLink "WindJumpLaw" (49 : Nat) ({ cls := "WindJumpModel", name := "mark", desc := "(III)I" } : Jvm.MethodName)) ∈ TBG := inG7 (i := 185) rfl rfl
theorem q_1633 : (Jvm.Cond.methodLink "WindJumpLaw" (53 : Nat) ({ cls := "WindJumpModel", name := "points", desc := "(I)I" } : Jvm.MethodName)) ∈ TBG := inG7 (i := 193) rfl rfl
theorem q_1637 : (Jvm.Cond.methodLink "WindJumpLaw" (57 : Nat) ({ cls := "WindJumpModel", name := "rank", desc := "(I)I" } : Jvm.MethodName)) ∈ TBG := inG7 (i := 197) rfl rfl
theorem q_1641 : (Jvm.Cond.methodLink "WindJumpLaw" (61 : Nat) ({ cls := "WindJumpModel", name := "ranked", desc := "(I)I" } : Jvm.MethodName)) ∈ TBG := inG7 (i := 201) rfl rfl
theorem q_1645 : (Jvm.Cond.methodLink "WindJumpLaw" (65 : Nat) ({ cls := "WindJumpModel", name := "start", desc := "(I)I" } : Jvm.MethodName)) ∈ TBG := inG7 (i := 205) rfl rfl
theorem q_1688 : (Jvm.Cond.methodLink "WindJumpLaw" (69 : Nat) ({ cls := "WindJumpModel", name := "letGo", desc := "(I)I" } : Jvm.MethodName)) ∈ TBG := inG8 (i := 8) rfl rfl
theorem q_1692 : (Jvm.Cond.methodLink "WindJumpLaw" (74 : Nat) ({ cls := "WindJumpModel", name := "gate", desc := "(I)Z" } : Jvm.MethodName)) ∈ TBG := inG8 (i := 12) rfl rfl
theorem q_1696 : (Jvm.Cond.methodLink "WindJumpLaw" (78 : Nat) ({ cls := "WindJumpModel", name := "pause", desc := "(I)I" } : Jvm.MethodName)) ∈ TBG := inG8 (i := 16) rfl rfl
theorem q_1700 : (Jvm.Cond.methodLink "WindJumpLaw" (83 : Nat) ({ cls := "WindJumpModel", name := "undo", desc := "()Z" } : Jvm.MethodName)) ∈ TBG := inG8 (i := 20) rfl rfl
theorem q_1704 : (Jvm.Cond.methodLink "WindJumpLaw" (88 : Nat) ({ cls := "WindJumpModel", name := "attempt", desc := "(IIII)I" } : Jvm.MethodName)) ∈ TBG := inG8 (i := 24) rfl rfl
theorem q_1712 : (Jvm.Cond.methodLink "WindJumpLaw" (92 : Nat) ({ cls := "WindJumpModel", name := "wait", desc := "(II)I" } : Jvm.MethodName)) ∈ TBG := inG8 (i := 32) rfl rfl
theorem q_1716 : (Jvm.Cond.methodLink "WindJumpLaw" (97 : Nat) ({ cls := "WindJumpModel", name := "cost", desc := "(IIZ)I" } : Jvm.MethodName)) ∈ TBG := inG8 (i := 36) rfl rfl
theorem q_1720 : (Jvm.Cond.methodLink "WindJumpLaw" (101 : Nat) ({ cls := "WindJumpModel", name := "pound", desc := "(III)I" } : Jvm.MethodName)) ∈ TBG := inG8 (i := 40) rfl rfl
theorem q_1724 : (Jvm.Cond.methodLink "WindJumpLaw" (105 : Nat) ({ cls := "WindJumpModel", name := "gain", desc := "(I)I" } : Jvm.MethodName)) ∈ TBG := inG8 (i := 44) rfl rfl
theorem q_1728 : (Jvm.Cond.methodLink "WindJumpLaw" (109 : Nat) ({ cls := "WindJumpModel", name := "number", desc := "(I)I" } : Jvm.MethodName)) ∈ TBG := inG8 (i := 48) rfl rfl
theorem q_1732 : (Jvm.Cond.methodLink "WindJumpLaw" (113 : Nat) ({ cls := "WindJumpModel", name := "gates", desc := "(I)I" } : Jvm.MethodName)) ∈ TBG := inG8 (i := 52) rfl rfl
theorem q_1740 : (Jvm.Cond.methodLink "WindJumpLaw" (117 : Nat) ({ cls := "WindJumpModel", name := "crown", desc := "(II)I" } : Jvm.MethodName)) ∈ TBG := inG8 (i := 60) rfl rfl
theorem q_1748 : (Jvm.Cond.methodLink "WindJumpLaw" (141 : Nat) ({ cls := "WindJumpModel", name := "reversed", desc := "(I)I" } : Jvm.MethodName)) ∈ TBG := inG8 (i := 68) rfl rfl
theorem q_1752 : (Jvm.Cond.methodLink "WindJumpLaw" (121 : Nat) ({ cls := "WindJumpModel", name := "without", desc := "(II)I" } : Jvm.MethodName)) ∈ TBG := inG8 (i := 72) rfl rfl
theorem q_1760 : (Jvm.Cond.methodLink "WindJumpLaw" (125 : Nat) ({ cls := "WindJumpModel", name := "needs", desc := "(I)I" } : Jvm.MethodName)) ∈ TBG := inG8 (i := 80) rfl rfl
theorem q_1768 : (Jvm.Cond.methodLink "WindJumpLaw" (129 : Nat) ({ cls := "WindJumpModel", name := "spread", desc := "(I)I" } : Jvm.MethodName)) ∈ TBG := inG8 (i := 88) rfl rfl
theorem q_1772 : (Jvm.Cond.methodLink "WindJumpLaw" (133 : Nat) ({ cls := "WindJumpModel", name := "atGate", desc := "(IIZ)I" } : Jvm.MethodName)) ∈ TBG := inG8 (i := 92) rfl rfl
theorem q_1776 : (Jvm.Cond.methodLink "WindJumpLaw" (137 : Nat) ({ cls := "WindJumpModel", name := "lead", desc := "(I)I" } : Jvm.MethodName)) ∈ TBG := inG8 (i := 96) rfl rfl
theorem q_1780 : (Jvm.Cond.methodLink "WindJumpLaw" (146 : Nat) ({ cls := "WindJumpModel", name := "harsh", desc := "(ZI)I" } : Jvm.MethodName)) ∈ TBG := inG8 (i := 100) rfl rfl
theorem q_1788 : (Jvm.Cond.methodLink "WindJumpLaw" (150 : Nat) ({ cls := "WindJumpModel", name := "calm", desc := "(II)I" } : Jvm.MethodName)) ∈ TBG := inG8 (i := 108) rfl rfl
theorem q_1795 : (Jvm.Cond.methodLink "WindJumpLaw" (154 : Nat) ({ cls := "WindJumpModel", name := "windiest", desc := "(I)I" } : Jvm.MethodName)) ∈ TBG := inG8 (i := 115) rfl rfl
theorem q_1799 : (Jvm.Cond.methodLink "WindJumpLaw" (158 : Nat) ({ cls := "WindJumpModel", name := "progress", desc := "(I)I" } : Jvm.MethodName)) ∈ TBG := inG8 (i := 119) rfl rfl
theorem q_1803 : (Jvm.Cond.methodLink "WindJumpLaw" (162 : Nat) ({ cls := "WindJumpModel", name := "himself", desc := "(I)I" } : Jvm.MethodName)) ∈ TBG := inG8 (i := 123) rfl rfl
theorem q_1807 : (Jvm.Cond.methodLink "WindJumpLaw" (166 : Nat) ({ cls := "WindJumpModel", name := "tell", desc := "(III)I" } : Jvm.MethodName)) ∈ TBG := inG8 (i := 127) rfl rfl
theorem q_1811 : (Jvm.Cond.methodLink "WindJumpLaw" (170 : Nat) ({ cls := "WindJumpModel", name := "forget", desc := "()I" } : Jvm.MethodName)) ∈ TBG := inG8 (i := 131) rfl rfl
theorem q_1815 : (Jvm.Cond.methodLink "WindJumpLaw" (174 : Nat) ({ cls := "WindJumpModel", name := "slips", desc := "(III)I" } : Jvm.MethodName)) ∈ TBG := inG8 (i := 135) rfl rfl
theorem q_1823 : (Jvm.Cond.methodLink "WindJumpLaw" (178 : Nat) ({ cls := "WindJumpModel", name := "hold", desc := "(I)Z" } : Jvm.MethodName)) ∈ TBG := inG8 (i := 143) rfl rfl
theorem q_1827 : (Jvm.Cond.methodLink "WindJumpLaw" (182 : Nat) ({ cls := "WindJumpModel", name := "restore", desc := "(I)Z" } : Jvm.MethodName)) ∈ TBG := inG8 (i := 147) rfl rfl
theorem q_1831 : (Jvm.Cond.methodLink "WindJumpLaw" (186 : Nat) ({ cls := "WindJumpModel", name := "count", desc := "(I)I" } : Jvm.MethodName)) ∈ TBG := inG8 (i := 151) rfl rfl
theorem V_scl {b L : Nat} {xs : Nat → Int32} (X : CXq p s m args meth c cc nL R_law ad cy D (fun q => s.heap.size ≤ q) s.heap) (hX : va_X b L xs s s.heap) (hbl : b < s.heap.size) (hd : decode cc pc = .ok (.arraylength, 1)) (kk : V p l e R s m args below meth c nL ad cy D (fun q => s.heap.size ≤ q) s.heap ce sl Qs wc wm wl0 (pc + 1) ls (.int (Int32.ofNat L) :: st1)) : V p l e R s m args below meth c nL ad cy D (fun q => s.heap.size ≤ q) s.heap ce sl Qs wc wm wl0 pc ls (.ref b :: st1) := by
  intro H locs la hP hS hl
  obtain ⟨hx, hb, hml, hown, hts, hnw, hK, ⟨hNN, hinj⟩, hA, hlk, hst⟩ := X
  exact va_slen hx hb hX hbl (Nat.not_le.mpr hbl) hS hd (kk H locs la hP hS hl)
theorem V_sld {b L : Nat} {xs : Nat → Int32} (X : CXq p s m args meth c cc nL R_law ad cy D (fun q => s.heap.size ≤ q) s.heap) (hX : va_X b L xs s s.heap) (hbl : b < s.heap.size) {i : Int32} (hin : vp_in i L) (hd : decode cc pc = .ok (.iaload, 1)) (kk : V p l e R s m args below meth c nL ad cy D (fun q => s.heap.size ≤ q) s.heap ce sl Qs wc wm wl0 (pc + 1) ls (.int (xs (ix i)) :: st1)) : V p l e R s m args below meth c nL ad cy D (fun q => s.heap.size ≤ q) s.heap ce sl Qs wc wm wl0 pc ls (.int i :: .ref b :: st1) := by
  intro H locs la hP hS hl
  obtain ⟨hx, hb, hml, hown, hts, hnw, hK, ⟨hNN, hinj⟩, hA, hlk, hst⟩ := X
  exact va_sld hx hb hX hbl (Nat.not_le.mpr hbl) hS hin hd (kk H locs la hP hS hl)
theorem V_lawret {b : Nat} (X : CXq p s m #[Value.ref b] meth c code 4 R_law ad cy D (fun q => s.heap.size ≤ q) s.heap) (hr : meth.sig.returnType = ret) (hd : decode code pc = .ok (.ireturn, 1)) : V p l e room_1 s m #[Value.ref b] below meth c 4 ad cy D (fun q => s.heap.size ≤ q) s.heap 189 45601 (lw_Z below #[Value.ref b] s) wc wm wl0 pc ls [.int 1] := by
  intro H locs la hP hS hl
  obtain ⟨hx, hb, hml, hown, hts, hnw, hK, ⟨hNN, hinj⟩, hA, hlk, hst⟩ := X
  refine va_forget (fun q hq => hS.2.2 q hq) ?_
  refine W.widen (k := 600000) (n := 7302250) (Nat.le_of_ble_eq_true rfl) (Nat.le_of_ble_eq_true rfl) ?_
  exact lw_ret hx hb hr hlk hd
set_option maxRecDepth 40000 in
set_option maxHeartbeats 4000000 in
theorem v_law_b1433 {L b : Nat} {xs : Nat → Int32} (X : CXq p s m #[Value.ref b] meth c code 4 R_law ad cy D (fun q => s.heap.size ≤ q) s.heap) (hr : meth.sig.returnType = ret) (hZ : ad 1000 = 189) (hX : va_X b L xs s s.heap) (hbl : b < s.heap.size) {L18 : Int32 → Mem → Mem → MemL → Prop} (HL18 : ∀ (l3 : Int32) (w wm : Mem) (wl : MemL), L18 l3 w wm wl → V p l e room_1 s m #[Value.ref b] below meth c 4 ad cy D (fun q => s.heap.size ≤ q) s.heap 189 45601 (lw_Z below #[Value.ref b] s) w wm wl 18 [(0, .ref b), (1, .ref (ad 0)), (2, .ref (ad 150)), (3, .int l3)] []) : ∀ (l3 : Int32) (w wm : Mem) (wl : MemL), wp_law_b1433 L xs L18 l3 w wm wl → V p l e room_1 s m #[Value.ref b] below meth c 4 ad cy D (fun q => s.heap.size ≤ q) s.heap 189 45601 (lw_Z below #[Value.ref b] s) w wm wl 1433 [(0, .ref b), (1, .ref (ad 0)), (2, .ref (ad 150)), (3, .int l3)] [] := by
  intro l3 w wm wl h
  unfold wp_law_b1433 at h
  obtain ⟨x1, ex1⟩ : ∃ y : Int32, y = l3 + (6 : Int32) := ⟨_, rfl⟩
  have h := h x1 ex1
  refine V_iinc X 3 dL_law_1433 rfl (by decide) (by rw [ex1]; rfl) (ls1 := [(3, .int x1), (0, .ref b), (1, .ref (ad 0)), (2, .ref (ad 150))]) rfl ?_
  refine V_goto X (tgt := 18) dL_law_1436 (by decide) ?_
  refine V_sub X (ls1 := [(0, .ref b), (1, .ref (ad 0)), (2, .ref (ad 150)), (3, .int x1)]) [1, 2, 3, 0] rfl ?_
  exact HL18 _ _ _ _ h
set_option maxRecDepth 40000 in
set_option maxHeartbeats 4000000 in
theorem v_law_b1150 {L b : Nat} {xs : Nat → Int32} (X : CXq p s m #[Value.ref b] meth c code 4 R_law ad cy D (fun q => s.heap.size ≤ q) s.heap) (hr : meth.sig.returnType = ret) (hZ : ad 1000 = 189) (hX : va_X b L xs s s.heap) (hbl : b < s.heap.size) {L18 : Int32 → Mem → Mem → MemL → Prop} (HL18 : ∀ (l3 : Int32) (w wm : Mem) (wl : MemL), L18 l3 w wm wl → V p l e room_1 s m #[Value.ref b] below meth c 4 ad cy D (fun q => s.heap.size ≤ q) s.heap 189 45601 (lw_Z below #[Value.ref b] s) w wm wl 18 [(0, .ref b), (1, .ref (ad 0)), (2, .ref (ad 150)), (3, .int l3)] []) : ∀ (l3 : Int32) (s0 : Int32) (s2 : Int32) (w wm : Mem) (wl : MemL), wp_law_b1150 L xs L18 l3 s0 s2 w wm wl → V p l e room_1 s m #[Value.ref b] below meth c 4 ad cy D (fun q => s.heap.size ≤ q) s.heap 189 45601 (lw_Z below #[Value.ref b] s) w wm wl 1150 [(0, .ref b), (1, .ref (ad 0)), (2, .ref (ad 150)), (3, .int l3)] [.int s2, .ref (ad 150), .int s0] := by
  intro l3 s0 s2 w wm wl h
  unfold wp_law_b1150 at h
  refine V_aload_n X (i := 0) 0 dL_law_1150 rfl rfl ?_
  refine V_iload_n X (i := 3) 3 dL_law_1151 rfl rfl ?_
  refine V_iconst X (v := (2 : Int32)) dL_law_1152 (by decide) ?_
  refine V_iadd X dL_law_1153 ?_
  obtain ⟨g1, h⟩ := h
  refine V_sld X hX hbl g1 dL_law_1154 ?_
  refine K_12_harsh X (Or.inl q_1780) hZ h ⟨Nat.le_of_ble_eq_true rfl, Nat.le_of_ble_eq_true rfl⟩ ⟨Nat.le_of_ble_eq_true rfl, Nat.le_of_ble_eq_true rfl⟩ (st1 := [.int s0]) (Nat.le_of_ble_eq_true rfl) dL_law_1155 (fun r3 w2 v4 h => ?_)
  obtain ⟨ht, hf⟩ := h
  refine V_icmp_eq X (tgt := 1433) dL_law_1158 (by decide) (fun c => ?_) (fun c => ?_)
  · have h := ht c
    refine V_sub X (ls1 := [(0, .ref b), (1, .ref (ad 0)), (2, .ref (ad 150)), (3, .int l3)]) [0, 1, 2, 3] rfl ?_
    exact v_law_b1433 X hr hZ hX hbl HL18 _ _ _ _ h
  · have h := hf c
    refine V_iconst X (v := (0 : Int32)) dL_law_1161 (by decide) ?_
    exact h.elim
set_option maxRecDepth 40000 in
set_option maxHeartbeats 4000000 in
theorem v_law_b1128 {L b : Nat} {xs : Nat → Int32} (X : CXq p s m #[Value.ref b] meth c code 4 R_law ad cy D (fun q => s.heap.size ≤ q) s.heap) (hr : meth.sig.returnType = ret) (hZ : ad 1000 = 189) (hX : va_X b L xs s s.heap) (hbl : b < s.heap.size) {L18 : Int32 → Mem → Mem → MemL → Prop} (HL18 : ∀ (l3 : Int32) (w wm : Mem) (wl : MemL), L18 l3 w wm wl → V p l e room_1 s m #[Value.ref b] below meth c 4 ad cy D (fun q => s.heap.size ≤ q) s.heap 189 45601 (lw_Z below #[Value.ref b] s) w wm wl 18 [(0, .ref b), (1, .ref (ad 0)), (2, .ref (ad 150)), (3, .int l3)] []) : ∀ (l3 : Int32) (s1 : Int32) (w wm : Mem) (wl : MemL), wp_law_b1128 L xs L18 l3 s1 w wm wl → V p l e room_1 s m #[Value.ref b] below meth c 4 ad cy D (fun q => s.heap.size ≤ q) s.heap 189 45601 (lw_Z below #[Value.ref b] s) w wm wl 1128 [(0, .ref b), (1, .ref (ad 0)), (2, .ref (ad 150)), (3, .int l3)] [.int s1, .ref (ad 0)] := by
  intro l3 s1 w wm wl h
  unfold wp_law_b1128 at h
  refine V_aload_n X (i := 0) 0 dL_law_1128 rfl rfl ?_
  refine V_iload_n X (i := 3) 3 dL_law_1129 rfl rfl ?_
  refine V_iconst X (v := (2 : Int32)) dL_law_1130 (by decide) ?_
  refine V_iadd X dL_law_1131 ?_
  obtain ⟨g1, h⟩ := h
  refine V_sld X hX hbl g1 dL_law_1132 ?_
  refine K_11_harsh X (Or.inl q_1095) h ⟨Nat.le_of_ble_eq_true rfl, Nat.le_of_ble_eq_true rfl⟩ ⟨Nat.le_of_ble_eq_true rfl, Nat.le_of_ble_eq_true rfl⟩ (st1 := []) (Nat.le_of_ble_eq_true rfl) dL_law_1133 (fun r3 w2 h => ?_)
  refine V_aload_n X (i := 2) 2 dL_law_1136 rfl rfl ?_
  refine V_aload_n X (i := 0) 0 dL_law_1137 rfl rfl ?_
  refine V_iload_n X (i := 3) 3 dL_law_1138 rfl rfl ?_
  refine V_iconst X (v := (1 : Int32)) dL_law_1139 (by decide) ?_
  refine V_iadd X dL_law_1140 ?_
  obtain ⟨g4, h⟩ := h
  refine V_sld X hX hbl g4 dL_law_1141 ?_
  obtain ⟨ht, hf⟩ := h
  refine V_if_eq X (tgt := 1149) dL_law_1142 (by decide) (fun c => ?_) (fun c => ?_)
  · have h := ht c
    refine V_iconst X (v := (0 : Int32)) dL_law_1149 (by decide) ?_
    refine V_sub X (ls1 := [(0, .ref b), (1, .ref (ad 0)), (2, .ref (ad 150)), (3, .int l3)]) [0, 1, 2, 3] rfl ?_
    exact v_law_b1150 X hr hZ hX hbl HL18 _ _ _ _ _ _ h
  · have h := hf c
    refine V_iconst X (v := (1 : Int32)) dL_law_1145 (by decide) ?_
    refine V_goto X (tgt := 1150) dL_law_1146 (by decide) ?_
    refine V_sub X (ls1 := [(0, .ref b), (1, .ref (ad 0)), (2, .ref (ad 150)), (3, .int l3)]) [0, 1, 2, 3] rfl ?_
    exact v_law_b1150 X hr hZ hX hbl HL18 _ _ _ _ _ _ h
set_option maxRecDepth 40000 in
set_option maxHeartbeats 4000000 in
theorem v_law_b1060 {L b : Nat} {xs : Nat → Int32} (X : CXq p s m #[Value.ref b] meth c code 4 R_law ad cy D (fun q => s.heap.size ≤ q) s.heap) (hr : meth.sig.returnType = ret) (hZ : ad 1000 = 189) (hX : va_X b L xs s s.heap) (hbl : b < s.heap.size) {L18 : Int32 → Mem → Mem → MemL → Prop} (HL18 : ∀ (l3 : Int32) (w wm : Mem) (wl : MemL), L18 l3 w wm wl → V p l e room_1 s m #[Value.ref b] below meth c 4 ad cy D (fun q => s.heap.size ≤ q) s.heap 189 45601 (lw_Z below #[Value.ref b] s) w wm wl 18 [(0, .ref b), (1, .ref (ad 0)), (2, .ref (ad 150)), (3, .int l3)] []) : ∀ (l3 : Int32) (s0 : Int32) (s2 : Int32) (s3 : Int32) (s4 : Int32) (w wm : Mem) (wl : MemL), wp_law_b1060 L xs L18 l3 s0 s2 s3 s4 w wm wl → V p l e room_1 s m #[Value.ref b] below meth c 4 ad cy D (fun q => s.heap.size ≤ q) s.heap 189 45601 (lw_Z below #[Value.ref b] s) w wm wl 1060 [(0, .ref b), (1, .ref (ad 0)), (2, .ref (ad 150)), (3, .int l3)] [.int s4, .int s3, .int s2, .ref (ad 150), .int s0] := by
  intro l3 s0 s2 s3 s4 w wm wl h
  unfold wp_law_b1060 at h
  refine K_12_atGate X (Or.inl q_1772) hZ h ⟨Nat.le_of_ble_eq_true rfl, Nat.le_of_ble_eq_true rfl⟩ ⟨Nat.le_of_ble_eq_true rfl, Nat.le_of_ble_eq_true rfl⟩ (st1 := [.int s0]) (Nat.le_of_ble_eq_true rfl) dL_law_1060 (fun r2 w1 v3 h => ?_)
  obtain ⟨ht, hf⟩ := h
  refine V_icmp_eq X (tgt := 1433) dL_law_1063 (by decide) (fun c => ?_) (fun c => ?_)
  · have h := ht c
    refine V_sub X (ls1 := [(0, .ref b), (1, .ref (ad 0)), (2, .ref (ad 150)), (3, .int l3)]) [0, 1, 2, 3] rfl ?_
    exact v_law_b1433 X hr hZ hX hbl HL18 _ _ _ _ h
  · have h := hf c
    refine V_iconst X (v := (0 : Int32)) dL_law_1066 (by decide) ?_
    exact h.elim
set_option maxRecDepth 40000 in
set_option maxHeartbeats 4000000 in
theorem v_law_b1033 {L b : Nat} {xs : Nat → Int32} (X : CXq p s m #[Value.ref b] meth c code 4 R_law ad cy D (fun q => s.heap.size ≤ q) s.heap) (hr : meth.sig.returnType = ret) (hZ : ad 1000 = 189) (hX : va_X b L xs s s.heap) (hbl : b < s.heap.size) {L18 : Int32 → Mem → Mem → MemL → Prop} (HL18 : ∀ (l3 : Int32) (w wm : Mem) (wl : MemL), L18 l3 w wm wl → V p l e room_1 s m #[Value.ref b] below meth c 4 ad cy D (fun q => s.heap.size ≤ q) s.heap 189 45601 (lw_Z below #[Value.ref b] s) w wm wl 18 [(0, .ref b), (1, .ref (ad 0)), (2, .ref (ad 150)), (3, .int l3)] []) : ∀ (l3 : Int32) (s1 : Int32) (s2 : Int32) (s3 : Int32) (w wm : Mem) (wl : MemL), wp_law_b1033 L xs L18 l3 s1 s2 s3 w wm wl → V p l e room_1 s m #[Value.ref b] below meth c 4 ad cy D (fun q => s.heap.size ≤ q) s.heap 189 45601 (lw_Z below #[Value.ref b] s) w wm wl 1033 [(0, .ref b), (1, .ref (ad 0)), (2, .ref (ad 150)), (3, .int l3)] [.int s3, .int s2, .int s1, .ref (ad 0)] := by
  intro l3 s1 s2 s3 w wm wl h
  unfold wp_law_b1033 at h
  refine K_11_atGate X (Or.inl q_1075) h ⟨Nat.le_of_ble_eq_true rfl, Nat.le_of_ble_eq_true rfl⟩ ⟨Nat.le_of_ble_eq_true rfl, Nat.le_of_ble_eq_true rfl⟩ (st1 := []) (Nat.le_of_ble_eq_true rfl) dL_law_1033 (fun r2 w1 h => ?_)
  refine V_aload_n X (i := 2) 2 dL_law_1036 rfl rfl ?_
  refine V_aload_n X (i := 0) 0 dL_law_1037 rfl rfl ?_
  refine V_iload_n X (i := 3) 3 dL_law_1038 rfl rfl ?_
  refine V_iconst X (v := (1 : Int32)) dL_law_1039 (by decide) ?_
  refine V_iadd X dL_law_1040 ?_
  obtain ⟨g3, h⟩ := h
  refine V_sld X hX hbl g3 dL_law_1041 ?_
  refine V_aload_n X (i := 0) 0 dL_law_1042 rfl rfl ?_
  refine V_iload_n X (i := 3) 3 dL_law_1043 rfl rfl ?_
  refine V_iconst X (v := (2 : Int32)) dL_law_1044 (by decide) ?_
  refine V_iadd X dL_law_1045 ?_
  obtain ⟨g4, h⟩ := h
  refine V_sld X hX hbl g4 dL_law_1046 ?_
  refine V_aload_n X (i := 0) 0 dL_law_1047 rfl rfl ?_
  refine V_iload_n X (i := 3) 3 dL_law_1048 rfl rfl ?_
  refine V_iconst X (v := (3 : Int32)) dL_law_1049 (by decide) ?_
  refine V_iadd X dL_law_1050 ?_
  obtain ⟨g5, h⟩ := h
  refine V_sld X hX hbl g5 dL_law_1051 ?_
  obtain ⟨ht, hf⟩ := h
  refine V_if_eq X (tgt := 1059) dL_law_1052 (by decide) (fun c => ?_) (fun c => ?_)
  · have h := ht c
    refine V_iconst X (v := (0 : Int32)) dL_law_1059 (by decide) ?_
    refine V_sub X (ls1 := [(0, .ref b), (1, .ref (ad 0)), (2, .ref (ad 150)), (3, .int l3)]) [0, 1, 2, 3] rfl ?_
    exact v_law_b1060 X hr hZ hX hbl HL18 _ _ _ _ _ _ _ _ h
  · have h := hf c
    refine V_iconst X (v := (1 : Int32)) dL_law_1055 (by decide) ?_
    refine V_goto X (tgt := 1060) dL_law_1056 (by decide) ?_
    refine V_sub X (ls1 := [(0, .ref b), (1, .ref (ad 0)), (2, .ref (ad 150)), (3, .int l3)]) [0, 1, 2, 3] rfl ?_
    exact v_law_b1060 X hr hZ hX hbl HL18 _ _ _ _ _ _ _ _ h
set_option maxRecDepth 40000 in
set_option maxHeartbeats 4000000 in
theorem v_law_b777 {L b : Nat} {xs : Nat → Int32} (X : CXq p s m #[Value.ref b] meth c code 4 R_law ad cy D (fun q => s.heap.size ≤ q) s.heap) (hr : meth.sig.returnType = ret) (hZ : ad 1000 = 189) (hX : va_X b L xs s s.heap) (hbl : b < s.heap.size) {L18 : Int32 → Mem → Mem → MemL → Prop} (HL18 : ∀ (l3 : Int32) (w wm : Mem) (wl : MemL), L18 l3 w wm wl → V p l e room_1 s m #[Value.ref b] below meth c 4 ad cy D (fun q => s.heap.size ≤ q) s.heap 189 45601 (lw_Z below #[Value.ref b] s) w wm wl 18 [(0, .ref b), (1, .ref (ad 0)), (2, .ref (ad 150)), (3, .int l3)] []) : ∀ (l3 : Int32) (s0 : Int32) (s2 : Int32) (s3 : Int32) (s4 : Int32) (w wm : Mem) (wl : MemL), wp_law_b777 L xs L18 l3 s0 s2 s3 s4 w wm wl → V p l e room_1 s m #[Value.ref b] below meth c 4 ad cy D (fun q => s.heap.size ≤ q) s.heap 189 45601 (lw_Z below #[Value.ref b] s) w wm wl 777 [(0, .ref b), (1, .ref (ad 0)), (2, .ref (ad 150)), (3, .int l3)] [.int s4, .int s3, .int s2, .ref (ad 150), .int s0] := by
  intro l3 s0 s2 s3 s4 w wm wl h
  unfold wp_law_b777 at h
  refine K_12_cost X (Or.inl q_1716) hZ h ⟨Nat.le_of_ble_eq_true rfl, Nat.le_of_ble_eq_true rfl⟩ ⟨Nat.le_of_ble_eq_true rfl, Nat.le_of_ble_eq_true rfl⟩ (st1 := [.int s0]) (Nat.le_of_ble_eq_true rfl) dL_law_777 (fun r2 w1 v3 h => ?_)
  obtain ⟨ht, hf⟩ := h
  refine V_icmp_eq X (tgt := 1433) dL_law_780 (by decide) (fun c => ?_) (fun c => ?_)
  · have h := ht c
    refine V_sub X (ls1 := [(0, .ref b), (1, .ref (ad 0)), (2, .ref (ad 150)), (3, .int l3)]) [0, 1, 2, 3] rfl ?_
    exact v_law_b1433 X hr hZ hX hbl HL18 _ _ _ _ h
  · have h := hf c
    refine V_iconst X (v := (0 : Int32)) dL_law_783 (by decide) ?_
    exact h.elim
set_option maxRecDepth 40000 in
set_option maxHeartbeats 4000000 in
theorem v_law_b750 {L b : Nat} {xs : Nat → Int32} (X : CXq p s m #[Value.ref b] meth c code 4 R_law ad cy D (fun q => s.heap.size ≤ q) s.heap) (hr : meth.sig.returnType = ret) (hZ : ad 1000 = 189) (hX : va_X b L xs s s.heap) (hbl : b < s.heap.size) {L18 : Int32 → Mem → Mem → MemL → Prop} (HL18 : ∀ (l3 : Int32) (w wm : Mem) (wl : MemL), L18 l3 w wm wl → V p l e room_1 s m #[Value.ref b] below meth c 4 ad cy D (fun q => s.heap.size ≤ q) s.heap 189 45601 (lw_Z below #[Value.ref b] s) w wm wl 18 [(0, .ref b), (1, .ref (ad 0)), (2, .ref (ad 150)), (3, .int l3)] []) : ∀ (l3 : Int32) (s1 : Int32) (s2 : Int32) (s3 : Int32) (w wm : Mem) (wl : MemL), wp_law_b750 L xs L18 l3 s1 s2 s3 w wm wl → V p l e room_1 s m #[Value.ref b] below meth c 4 ad cy D (fun q => s.heap.size ≤ q) s.heap 189 45601 (lw_Z below #[Value.ref b] s) w wm wl 750 [(0, .ref b), (1, .ref (ad 0)), (2, .ref (ad 150)), (3, .int l3)] [.int s3, .int s2, .int s1, .ref (ad 0)] := by
  intro l3 s1 s2 s3 w wm wl h
  unfold wp_law_b750 at h
  refine K_11_cost X (Or.inl q_996) h ⟨Nat.le_of_ble_eq_true rfl, Nat.le_of_ble_eq_true rfl⟩ ⟨Nat.le_of_ble_eq_true rfl, Nat.le_of_ble_eq_true rfl⟩ (st1 := []) (Nat.le_of_ble_eq_true rfl) dL_law_750 (fun r2 w1 h => ?_)
  refine V_aload_n X (i := 2) 2 dL_law_753 rfl rfl ?_
  refine V_aload_n X (i := 0) 0 dL_law_754 rfl rfl ?_
  refine V_iload_n X (i := 3) 3 dL_law_755 rfl rfl ?_
  refine V_iconst X (v := (1 : Int32)) dL_law_756 (by decide) ?_
  refine V_iadd X dL_law_757 ?_
  obtain ⟨g3, h⟩ := h
  refine V_sld X hX hbl g3 dL_law_758 ?_
  refine V_aload_n X (i := 0) 0 dL_law_759 rfl rfl ?_
  refine V_iload_n X (i := 3) 3 dL_law_760 rfl rfl ?_
  refine V_iconst X (v := (2 : Int32)) dL_law_761 (by decide) ?_
  refine V_iadd X dL_law_762 ?_
  obtain ⟨g4, h⟩ := h
  refine V_sld X hX hbl g4 dL_law_763 ?_
  refine V_aload_n X (i := 0) 0 dL_law_764 rfl rfl ?_
  refine V_iload_n X (i := 3) 3 dL_law_765 rfl rfl ?_
  refine V_iconst X (v := (3 : Int32)) dL_law_766 (by decide) ?_
  refine V_iadd X dL_law_767 ?_
  obtain ⟨g5, h⟩ := h
  refine V_sld X hX hbl g5 dL_law_768 ?_
  obtain ⟨ht, hf⟩ := h
  refine V_if_eq X (tgt := 776) dL_law_769 (by decide) (fun c => ?_) (fun c => ?_)
  · have h := ht c
    refine V_iconst X (v := (0 : Int32)) dL_law_776 (by decide) ?_
    refine V_sub X (ls1 := [(0, .ref b), (1, .ref (ad 0)), (2, .ref (ad 150)), (3, .int l3)]) [0, 1, 2, 3] rfl ?_
    exact v_law_b777 X hr hZ hX hbl HL18 _ _ _ _ _ _ _ _ h
  · have h := hf c
    refine V_iconst X (v := (1 : Int32)) dL_law_772 (by decide) ?_
    refine V_goto X (tgt := 777) dL_law_773 (by decide) ?_
    refine V_sub X (ls1 := [(0, .ref b), (1, .ref (ad 0)), (2, .ref (ad 150)), (3, .int l3)]) [0, 1, 2, 3] rfl ?_
    exact v_law_b777 X hr hZ hX hbl HL18 _ _ _ _ _ _ _ _ h
set_option maxRecDepth 40000 in
set_option maxHeartbeats 4000000 in
theorem v_law_b18 {L b : Nat} {xs : Nat → Int32} (X : CXq p s m #[Value.ref b] meth c code 4 R_law ad cy D (fun q => s.heap.size ≤ q) s.heap) (hr : meth.sig.returnType = ret) (hZ : ad 1000 = 189) (hX : va_X b L xs s s.heap) (hbl : b < s.heap.size) : ∀ (n : Nat) (l3 : Int32) (w wm : Mem) (wl : MemL), wp_law_b18 L xs n l3 w wm wl → V p l e room_1 s m #[Value.ref b] below meth c 4 ad cy D (fun q => s.heap.size ≤ q) s.heap 189 45601 (lw_Z below #[Value.ref b] s) w wm wl 18 [(0, .ref b), (1, .ref (ad 0)), (2, .ref (ad 150)), (3, .int l3)] [] := by
  intro n
  induction n with
  | zero =>
    intro l3 w wm wl h
    exact h.elim
  | succ n ih =>
    intro l3 w wm wl h
    unfold wp_law_b18 at h
    refine V_iload_n X (i := 3) 3 dL_law_18 rfl rfl ?_
    refine V_aload_n X (i := 0) 0 dL_law_19 rfl rfl ?_
    refine V_scl X hX hbl dL_law_20 ?_
    refine V_bipush X (v := (6 : Int32)) dL_law_21 (by decide) ?_
    refine V_isub X dL_law_23 ?_
    obtain ⟨ht, hf⟩ := h
    refine V_icmp_gt X (tgt := 1439) dL_law_24 (by decide) (fun c => ?_) (fun c => ?_)
    · have h := ht c
      refine V_iconst X (v := (1 : Int32)) dL_law_1439 (by decide) ?_
      exact V_lawret X hr dL_law_1440
    · have h := hf c
      refine V_aload_n X (i := 0) 0 dL_law_27 rfl rfl ?_
      refine V_iload_n X (i := 3) 3 dL_law_28 rfl rfl ?_
      obtain ⟨g1, h⟩ := h
      refine V_sld X hX hbl g1 dL_law_29 ?_
      refine V_bipush X (v := (63 : Int32)) dL_law_30 (by decide) ?_
      refine V_iand X dL_law_32 ?_
      obtain ⟨ht, h⟩ := h
      by_cases c0 : ((xs (ix l3)) &&& (63 : Int32)) = (0 : Int32)
      · have h := ht c0
        refine V_tableIn X (tgt := 212) dL_law_33 (by rw [c0]; decide) (by rw [c0]; decide) (off := 179) (by rw [c0]; decide) (by decide) ?_
        refine V_aload_n X (i := 1) 1 dL_law_212 rfl rfl ?_
        refine V_aload_n X (i := 0) 0 dL_law_213 rfl rfl ?_
        refine V_iload_n X (i := 3) 3 dL_law_214 rfl rfl ?_
        refine V_iconst X (v := (1 : Int32)) dL_law_215 (by decide) ?_
        refine V_iadd X dL_law_216 ?_
        obtain ⟨g2, h⟩ := h
        refine V_sld X hX hbl g2 dL_law_217 ?_
        refine V_aload_n X (i := 0) 0 dL_law_218 rfl rfl ?_
        refine V_iload_n X (i := 3) 3 dL_law_219 rfl rfl ?_
        refine V_iconst X (v := (2 : Int32)) dL_law_220 (by decide) ?_
        refine V_iadd X dL_law_221 ?_
        obtain ⟨g3, h⟩ := h
        refine V_sld X hX hbl g3 dL_law_222 ?_
        refine V_aload_n X (i := 0) 0 dL_law_223 rfl rfl ?_
        refine V_iload_n X (i := 3) 3 dL_law_224 rfl rfl ?_
        refine V_iconst X (v := (3 : Int32)) dL_law_225 (by decide) ?_
        refine V_iadd X dL_law_226 ?_
        obtain ⟨g4, h⟩ := h
        refine V_sld X hX hbl g4 dL_law_227 ?_
        refine V_aload_n X (i := 0) 0 dL_law_228 rfl rfl ?_
        refine V_iload_n X (i := 3) 3 dL_law_229 rfl rfl ?_
        refine V_iconst X (v := (4 : Int32)) dL_law_230 (by decide) ?_
        refine V_iadd X dL_law_231 ?_
        obtain ⟨g5, h⟩ := h
        refine V_sld X hX hbl g5 dL_law_232 ?_
        refine V_aload_n X (i := 0) 0 dL_law_233 rfl rfl ?_
        refine V_iload_n X (i := 3) 3 dL_law_234 rfl rfl ?_
        refine V_iconst X (v := (5 : Int32)) dL_law_235 (by decide) ?_
        refine V_iadd X dL_law_236 ?_
        obtain ⟨g6, h⟩ := h
        refine V_sld X hX hbl g6 dL_law_237 ?_
        refine K_11_feed X (Or.inl q_515) h ⟨Nat.le_of_ble_eq_true rfl, Nat.le_of_ble_eq_true rfl⟩ ⟨Nat.le_of_ble_eq_true rfl, Nat.le_of_ble_eq_true rfl⟩ (st1 := []) (Nat.le_of_ble_eq_true rfl) dL_law_238 (fun r8 w7 h => ?_)
        refine V_aload_n X (i := 2) 2 dL_law_241 rfl rfl ?_
        refine V_aload_n X (i := 0) 0 dL_law_242 rfl rfl ?_
        refine V_iload_n X (i := 3) 3 dL_law_243 rfl rfl ?_
        refine V_iconst X (v := (1 : Int32)) dL_law_244 (by decide) ?_
        refine V_iadd X dL_law_245 ?_
        obtain ⟨g9, h⟩ := h
        refine V_sld X hX hbl g9 dL_law_246 ?_
        refine V_aload_n X (i := 0) 0 dL_law_247 rfl rfl ?_
        refine V_iload_n X (i := 3) 3 dL_law_248 rfl rfl ?_
        refine V_iconst X (v := (2 : Int32)) dL_law_249 (by decide) ?_
        refine V_iadd X dL_law_250 ?_
        obtain ⟨g10, h⟩ := h
        refine V_sld X hX hbl g10 dL_law_251 ?_
        refine V_aload_n X (i := 0) 0 dL_law_252 rfl rfl ?_
        refine V_iload_n X (i := 3) 3 dL_law_253 rfl rfl ?_
        refine V_iconst X (v := (3 : Int32)) dL_law_254 (by decide) ?_
        refine V_iadd X dL_law_255 ?_
        obtain ⟨g11, h⟩ := h
        refine V_sld X hX hbl g11 dL_law_256 ?_
        refine V_aload_n X (i := 0) 0 dL_law_257 rfl rfl ?_
        refine V_iload_n X (i := 3) 3 dL_law_258 rfl rfl ?_
        refine V_iconst X (v := (4 : Int32)) dL_law_259 (by decide) ?_
        refine V_iadd X dL_law_260 ?_
        obtain ⟨g12, h⟩ := h
        refine V_sld X hX hbl g12 dL_law_261 ?_
        refine V_aload_n X (i := 0) 0 dL_law_262 rfl rfl ?_
        refine V_iload_n X (i := 3) 3 dL_law_263 rfl rfl ?_
        refine V_iconst X (v := (5 : Int32)) dL_law_264 (by decide) ?_
        refine V_iadd X dL_law_265 ?_
        obtain ⟨g13, h⟩ := h
        refine V_sld X hX hbl g13 dL_law_266 ?_
        refine K_12_feed X (Or.inl q_1432) hZ h ⟨Nat.le_of_ble_eq_true rfl, Nat.le_of_ble_eq_true rfl⟩ ⟨Nat.le_of_ble_eq_true rfl, Nat.le_of_ble_eq_true rfl⟩ (st1 := [.int r8]) (Nat.le_of_ble_eq_true rfl) dL_law_267 (fun r15 w14 v16 h => ?_)
        obtain ⟨ht, hf⟩ := h
        refine V_icmp_eq X (tgt := 1433) dL_law_270 (by decide) (fun c => ?_) (fun c => ?_)
        · have h := ht c
          refine V_sub X (ls1 := [(0, .ref b), (1, .ref (ad 0)), (2, .ref (ad 150)), (3, .int l3)]) [0, 1, 2, 3] rfl ?_
          exact v_law_b1433 X hr hZ hX hbl ih _ _ _ _ h
        · have h := hf c
          refine V_iconst X (v := (0 : Int32)) dL_law_273 (by decide) ?_
          exact h.elim
      have h := h c0
      obtain ⟨ht, h⟩ := h
      by_cases c1 : ((xs (ix l3)) &&& (63 : Int32)) = (1 : Int32)
      · have h := ht c1
        refine V_tableIn X (tgt := 275) dL_law_33 (by rw [c1]; decide) (by rw [c1]; decide) (off := 242) (by rw [c1]; decide) (by decide) ?_
        refine V_aload_n X (i := 1) 1 dL_law_275 rfl rfl ?_
        refine V_aload_n X (i := 0) 0 dL_law_276 rfl rfl ?_
        refine V_iload_n X (i := 3) 3 dL_law_277 rfl rfl ?_
        refine V_iconst X (v := (1 : Int32)) dL_law_278 (by decide) ?_
        refine V_iadd X dL_law_279 ?_
        obtain ⟨g17, h⟩ := h
        refine V_sld X hX hbl g17 dL_law_280 ?_
        refine K_11_back X (Or.inl q_528) h ⟨Nat.le_of_ble_eq_true rfl, Nat.le_of_ble_eq_true rfl⟩ ⟨Nat.le_of_ble_eq_true rfl, Nat.le_of_ble_eq_true rfl⟩ (st1 := []) (Nat.le_of_ble_eq_true rfl) dL_law_281 (fun r19 w18 h => ?_)
        refine V_aload_n X (i := 2) 2 dL_law_284 rfl rfl ?_
        refine V_aload_n X (i := 0) 0 dL_law_285 rfl rfl ?_
        refine V_iload_n X (i := 3) 3 dL_law_286 rfl rfl ?_
        refine V_iconst X (v := (1 : Int32)) dL_law_287 (by decide) ?_
        refine V_iadd X dL_law_288 ?_
        obtain ⟨g20, h⟩ := h
        refine V_sld X hX hbl g20 dL_law_289 ?_
        refine K_12_back X (Or.inl q_1440) hZ h ⟨Nat.le_of_ble_eq_true rfl, Nat.le_of_ble_eq_true rfl⟩ ⟨Nat.le_of_ble_eq_true rfl, Nat.le_of_ble_eq_true rfl⟩ (st1 := [.int r19]) (Nat.le_of_ble_eq_true rfl) dL_law_290 (fun r22 w21 v23 h => ?_)
        obtain ⟨ht, hf⟩ := h
        refine V_icmp_eq X (tgt := 1433) dL_law_293 (by decide) (fun c => ?_) (fun c => ?_)
        · have h := ht c
          refine V_sub X (ls1 := [(0, .ref b), (1, .ref (ad 0)), (2, .ref (ad 150)), (3, .int l3)]) [0, 1, 2, 3] rfl ?_
          exact v_law_b1433 X hr hZ hX hbl ih _ _ _ _ h
        · have h := hf c
          refine V_iconst X (v := (0 : Int32)) dL_law_296 (by decide) ?_
          exact h.elim
      have h := h c1
      obtain ⟨ht, h⟩ := h
      by_cases c2 : ((xs (ix l3)) &&& (63 : Int32)) = (2 : Int32)
      · have h := ht c2
        refine V_tableIn X (tgt := 298) dL_law_33 (by rw [c2]; decide) (by rw [c2]; decide) (off := 265) (by rw [c2]; decide) (by decide) ?_
        refine V_aload_n X (i := 1) 1 dL_law_298 rfl rfl ?_
        refine K_11_read X (Or.inl q_535) h ⟨Nat.le_of_ble_eq_true rfl, Nat.le_of_ble_eq_true rfl⟩ ⟨Nat.le_of_ble_eq_true rfl, Nat.le_of_ble_eq_true rfl⟩ (st1 := []) (Nat.le_of_ble_eq_true rfl) dL_law_299 (fun r25 w24 h => ?_)
        refine V_aload_n X (i := 2) 2 dL_law_302 rfl rfl ?_
        refine K_12_read X (Or.inl q_1444) hZ h ⟨Nat.le_of_ble_eq_true rfl, Nat.le_of_ble_eq_true rfl⟩ ⟨Nat.le_of_ble_eq_true rfl, Nat.le_of_ble_eq_true rfl⟩ (st1 := [.int r25]) (Nat.le_of_ble_eq_true rfl) dL_law_303 (fun r27 w26 v28 h => ?_)
        obtain ⟨ht, hf⟩ := h
        refine V_icmp_eq X (tgt := 1433) dL_law_306 (by decide) (fun c => ?_) (fun c => ?_)
        · have h := ht c
          refine V_sub X (ls1 := [(0, .ref b), (1, .ref (ad 0)), (2, .ref (ad 150)), (3, .int l3)]) [0, 1, 2, 3] rfl ?_
          exact v_law_b1433 X hr hZ hX hbl ih _ _ _ _ h
        · have h := hf c
          refine V_iconst X (v := (0 : Int32)) dL_law_309 (by decide) ?_
          exact h.elim
      have h := h c2
      obtain ⟨ht, h⟩ := h
      by_cases c3 : ((xs (ix l3)) &&& (63 : Int32)) = (3 : Int32)
      · have h := ht c3
        refine V_tableIn X (tgt := 311) dL_law_33 (by rw [c3]; decide) (by rw [c3]; decide) (off := 278) (by rw [c3]; decide) (by decide) ?_
        refine V_aload_n X (i := 1) 1 dL_law_311 rfl rfl ?_
        refine K_11_place X (Or.inl q_771) h ⟨Nat.le_of_ble_eq_true rfl, Nat.le_of_ble_eq_true rfl⟩ ⟨Nat.le_of_ble_eq_true rfl, Nat.le_of_ble_eq_true rfl⟩ (st1 := []) (Nat.le_of_ble_eq_true rfl) dL_law_312 (fun r30 w29 h => ?_)
        refine V_aload_n X (i := 2) 2 dL_law_315 rfl rfl ?_
        refine K_12_place X (Or.inl q_1538) hZ h ⟨Nat.le_of_ble_eq_true rfl, Nat.le_of_ble_eq_true rfl⟩ ⟨Nat.le_of_ble_eq_true rfl, Nat.le_of_ble_eq_true rfl⟩ (st1 := [.int r30]) (Nat.le_of_ble_eq_true rfl) dL_law_316 (fun r32 w31 v33 h => ?_)
        obtain ⟨ht, hf⟩ := h
        refine V_icmp_eq X (tgt := 1433) dL_law_319 (by decide) (fun c => ?_) (fun c => ?_)
        · have h := ht c
          refine V_sub X (ls1 := [(0, .ref b), (1, .ref (ad 0)), (2, .ref (ad 150)), (3, .int l3)]) [0, 1, 2, 3] rfl ?_
          exact v_law_b1433 X hr hZ hX hbl ih _ _ _ _ h
        · have h := hf c
          refine V_iconst X (v := (0 : Int32)) dL_law_322 (by decide) ?_
          exact h.elim
      have h := h c3
      obtain ⟨ht, h⟩ := h
      by_cases c4 : ((xs (ix l3)) &&& (63 : Int32)) = (4 : Int32)
      · have h := ht c4
        refine V_tableIn X (tgt := 324) dL_law_33 (by rw [c4]; decide) (by rw [c4]; decide) (off := 291) (by rw [c4]; decide) (by decide) ?_
        refine V_aload_n X (i := 1) 1 dL_law_324 rfl rfl ?_
        refine V_aload_n X (i := 0) 0 dL_law_325 rfl rfl ?_
        refine V_iload_n X (i := 3) 3 dL_law_326 rfl rfl ?_
        refine V_iconst X (v := (1 : Int32)) dL_law_327 (by decide) ?_
        refine V_iadd X dL_law_328 ?_
        obtain ⟨g34, h⟩ := h
        refine V_sld X hX hbl g34 dL_law_329 ?_
        refine K_11_now X (Or.inl q_775) h ⟨Nat.le_of_ble_eq_true rfl, Nat.le_of_ble_eq_true rfl⟩ ⟨Nat.le_of_ble_eq_true rfl, Nat.le_of_ble_eq_true rfl⟩ (st1 := []) (Nat.le_of_ble_eq_true rfl) dL_law_330 (fun r36 w35 h => ?_)
        refine V_aload_n X (i := 2) 2 dL_law_333 rfl rfl ?_
        refine V_aload_n X (i := 0) 0 dL_law_334 rfl rfl ?_
        refine V_iload_n X (i := 3) 3 dL_law_335 rfl rfl ?_
        refine V_iconst X (v := (1 : Int32)) dL_law_336 (by decide) ?_
        refine V_iadd X dL_law_337 ?_
        obtain ⟨g37, h⟩ := h
        refine V_sld X hX hbl g37 dL_law_338 ?_
        refine K_12_now X (Or.inl q_1542) hZ h ⟨Nat.le_of_ble_eq_true rfl, Nat.le_of_ble_eq_true rfl⟩ ⟨Nat.le_of_ble_eq_true rfl, Nat.le_of_ble_eq_true rfl⟩ (st1 := [.int r36]) (Nat.le_of_ble_eq_true rfl) dL_law_339 (fun r39 w38 v40 h => ?_)
        obtain ⟨ht, hf⟩ := h
        refine V_icmp_eq X (tgt := 1433) dL_law_342 (by decide) (fun c => ?_) (fun c => ?_)
        · have h := ht c
          refine V_sub X (ls1 := [(0, .ref b), (1, .ref (ad 0)), (2, .ref (ad 150)), (3, .int l3)]) [0, 1, 2, 3] rfl ?_
          exact v_law_b1433 X hr hZ hX hbl ih _ _ _ _ h
        · have h := hf c
          refine V_iconst X (v := (0 : Int32)) dL_law_345 (by decide) ?_
          exact h.elim
      have h := h c4
      obtain ⟨ht, h⟩ := h
      by_cases c5 : ((xs (ix l3)) &&& (63 : Int32)) = (5 : Int32)
      · have h := ht c5
        refine V_tableIn X (tgt := 347) dL_law_33 (by rw [c5]; decide) (by rw [c5]; decide) (off := 314) (by rw [c5]; decide) (by decide) ?_
        refine V_aload_n X (i := 1) 1 dL_law_347 rfl rfl ?_
        refine V_aload_n X (i := 0) 0 dL_law_348 rfl rfl ?_
        refine V_iload_n X (i := 3) 3 dL_law_349 rfl rfl ?_
        refine V_iconst X (v := (1 : Int32)) dL_law_350 (by decide) ?_
        refine V_iadd X dL_law_351 ?_
        obtain ⟨g41, h⟩ := h
        refine V_sld X hX hbl g41 dL_law_352 ?_
        refine V_aload_n X (i := 0) 0 dL_law_353 rfl rfl ?_
        refine V_iload_n X (i := 3) 3 dL_law_354 rfl rfl ?_
        refine V_iconst X (v := (2 : Int32)) dL_law_355 (by decide) ?_
        refine V_iadd X dL_law_356 ?_
        obtain ⟨g42, h⟩ := h
        refine V_sld X hX hbl g42 dL_law_357 ?_
        refine K_11_wind X (Or.inl q_820) h ⟨Nat.le_of_ble_eq_true rfl, Nat.le_of_ble_eq_true rfl⟩ ⟨Nat.le_of_ble_eq_true rfl, Nat.le_of_ble_eq_true rfl⟩ (st1 := []) (Nat.le_of_ble_eq_true rfl) dL_law_358 (fun r44 w43 h => ?_)
        refine V_aload_n X (i := 2) 2 dL_law_361 rfl rfl ?_
        refine V_aload_n X (i := 0) 0 dL_law_362 rfl rfl ?_
        refine V_iload_n X (i := 3) 3 dL_law_363 rfl rfl ?_
        refine V_iconst X (v := (1 : Int32)) dL_law_364 (by decide) ?_
        refine V_iadd X dL_law_365 ?_
        obtain ⟨g45, h⟩ := h
        refine V_sld X hX hbl g45 dL_law_366 ?_
        refine V_aload_n X (i := 0) 0 dL_law_367 rfl rfl ?_
        refine V_iload_n X (i := 3) 3 dL_law_368 rfl rfl ?_
        refine V_iconst X (v := (2 : Int32)) dL_law_369 (by decide) ?_
        refine V_iadd X dL_law_370 ?_
        obtain ⟨g46, h⟩ := h
        refine V_sld X hX hbl g46 dL_law_371 ?_
        refine K_12_wind X (Or.inl q_1605) hZ h ⟨Nat.le_of_ble_eq_true rfl, Nat.le_of_ble_eq_true rfl⟩ ⟨Nat.le_of_ble_eq_true rfl, Nat.le_of_ble_eq_true rfl⟩ (st1 := [.int r44]) (Nat.le_of_ble_eq_true rfl) dL_law_372 (fun r48 w47 v49 h => ?_)
        obtain ⟨ht, hf⟩ := h
        refine V_icmp_eq X (tgt := 1433) dL_law_375 (by decide) (fun c => ?_) (fun c => ?_)
        · have h := ht c
          refine V_sub X (ls1 := [(0, .ref b), (1, .ref (ad 0)), (2, .ref (ad 150)), (3, .int l3)]) [0, 1, 2, 3] rfl ?_
          exact v_law_b1433 X hr hZ hX hbl ih _ _ _ _ h
        · have h := hf c
          refine V_iconst X (v := (0 : Int32)) dL_law_378 (by decide) ?_
          exact h.elim
      have h := h c5
      obtain ⟨ht, h⟩ := h
      by_cases c6 : ((xs (ix l3)) &&& (63 : Int32)) = (6 : Int32)
      · have h := ht c6
        refine V_tableIn X (tgt := 380) dL_law_33 (by rw [c6]; decide) (by rw [c6]; decide) (off := 347) (by rw [c6]; decide) (by decide) ?_
        refine V_aload_n X (i := 1) 1 dL_law_380 rfl rfl ?_
        refine V_aload_n X (i := 0) 0 dL_law_381 rfl rfl ?_
        refine V_iload_n X (i := 3) 3 dL_law_382 rfl rfl ?_
        refine V_iconst X (v := (1 : Int32)) dL_law_383 (by decide) ?_
        refine V_iadd X dL_law_384 ?_
        obtain ⟨g50, h⟩ := h
        refine V_sld X hX hbl g50 dL_law_385 ?_
        refine V_aload_n X (i := 0) 0 dL_law_386 rfl rfl ?_
        refine V_iload_n X (i := 3) 3 dL_law_387 rfl rfl ?_
        refine V_iconst X (v := (2 : Int32)) dL_law_388 (by decide) ?_
        refine V_iadd X dL_law_389 ?_
        obtain ⟨g51, h⟩ := h
        refine V_sld X hX hbl g51 dL_law_390 ?_
        refine V_aload_n X (i := 0) 0 dL_law_391 rfl rfl ?_
        refine V_iload_n X (i := 3) 3 dL_law_392 rfl rfl ?_
        refine V_iconst X (v := (3 : Int32)) dL_law_393 (by decide) ?_
        refine V_iadd X dL_law_394 ?_
        obtain ⟨g52, h⟩ := h
        refine V_sld X hX hbl g52 dL_law_395 ?_
        refine K_11_jump X (Or.inl q_826) h ⟨Nat.le_of_ble_eq_true rfl, Nat.le_of_ble_eq_true rfl⟩ ⟨Nat.le_of_ble_eq_true rfl, Nat.le_of_ble_eq_true rfl⟩ (st1 := []) (Nat.le_of_ble_eq_true rfl) dL_law_396 (fun r54 w53 h => ?_)
        refine V_aload_n X (i := 2) 2 dL_law_399 rfl rfl ?_
        refine V_aload_n X (i := 0) 0 dL_law_400 rfl rfl ?_
        refine V_iload_n X (i := 3) 3 dL_law_401 rfl rfl ?_
        refine V_iconst X (v := (1 : Int32)) dL_law_402 (by decide) ?_
        refine V_iadd X dL_law_403 ?_
        obtain ⟨g55, h⟩ := h
        refine V_sld X hX hbl g55 dL_law_404 ?_
        refine V_aload_n X (i := 0) 0 dL_law_405 rfl rfl ?_
        refine V_iload_n X (i := 3) 3 dL_law_406 rfl rfl ?_
        refine V_iconst X (v := (2 : Int32)) dL_law_407 (by decide) ?_
        refine V_iadd X dL_law_408 ?_
        obtain ⟨g56, h⟩ := h
        refine V_sld X hX hbl g56 dL_law_409 ?_
        refine V_aload_n X (i := 0) 0 dL_law_410 rfl rfl ?_
        refine V_iload_n X (i := 3) 3 dL_law_411 rfl rfl ?_
        refine V_iconst X (v := (3 : Int32)) dL_law_412 (by decide) ?_
        refine V_iadd X dL_law_413 ?_
        obtain ⟨g57, h⟩ := h
        refine V_sld X hX hbl g57 dL_law_414 ?_
        refine K_12_jump X (Or.inl q_1613) hZ h ⟨Nat.le_of_ble_eq_true rfl, Nat.le_of_ble_eq_true rfl⟩ ⟨Nat.le_of_ble_eq_true rfl, Nat.le_of_ble_eq_true rfl⟩ (st1 := [.int r54]) (Nat.le_of_ble_eq_true rfl) dL_law_415 (fun r59 w58 v60 h => ?_)
        obtain ⟨ht, hf⟩ := h
        refine V_icmp_eq X (tgt := 1433) dL_law_418 (by decide) (fun c => ?_) (fun c => ?_)
        · have h := ht c
          refine V_sub X (ls1 := [(0, .ref b), (1, .ref (ad 0)), (2, .ref (ad 150)), (3, .int l3)]) [0, 1, 2, 3] rfl ?_
          exact v_law_b1433 X hr hZ hX hbl ih _ _ _ _ h
        · have h := hf c
          refine V_iconst X (v := (0 : Int32)) dL_law_421 (by decide) ?_
          exact h.elim
      have h := h c6
      obtain ⟨ht, h⟩ := h
      by_cases c7 : ((xs (ix l3)) &&& (63 : Int32)) = (7 : Int32)
      · have h := ht c7
        refine V_tableIn X (tgt := 423) dL_law_33 (by rw [c7]; decide) (by rw [c7]; decide) (off := 390) (by rw [c7]; decide) (by decide) ?_
        refine V_aload_n X (i := 1) 1 dL_law_423 rfl rfl ?_
        refine V_aload_n X (i := 0) 0 dL_law_424 rfl rfl ?_
        refine V_iload_n X (i := 3) 3 dL_law_425 rfl rfl ?_
        refine V_iconst X (v := (1 : Int32)) dL_law_426 (by decide) ?_
        refine V_iadd X dL_law_427 ?_
        obtain ⟨g61, h⟩ := h
        refine V_sld X hX hbl g61 dL_law_428 ?_
        refine V_aload_n X (i := 0) 0 dL_law_429 rfl rfl ?_
        refine V_iload_n X (i := 3) 3 dL_law_430 rfl rfl ?_
        refine V_iconst X (v := (2 : Int32)) dL_law_431 (by decide) ?_
        refine V_iadd X dL_law_432 ?_
        obtain ⟨g62, h⟩ := h
        refine V_sld X hX hbl g62 dL_law_433 ?_
        refine V_aload_n X (i := 0) 0 dL_law_434 rfl rfl ?_
        refine V_iload_n X (i := 3) 3 dL_law_435 rfl rfl ?_
        refine V_iconst X (v := (3 : Int32)) dL_law_436 (by decide) ?_
        refine V_iadd X dL_law_437 ?_
        obtain ⟨g63, h⟩ := h
        refine V_sld X hX hbl g63 dL_law_438 ?_
        refine K_11_mark X (Or.inl q_843) h ⟨Nat.le_of_ble_eq_true rfl, Nat.le_of_ble_eq_true rfl⟩ ⟨Nat.le_of_ble_eq_true rfl, Nat.le_of_ble_eq_true rfl⟩ (st1 := []) (Nat.le_of_ble_eq_true rfl) dL_law_439 (fun r65 w64 h => ?_)
        refine V_aload_n X (i := 2) 2 dL_law_442 rfl rfl ?_
        refine V_aload_n X (i := 0) 0 dL_law_443 rfl rfl ?_
        refine V_iload_n X (i := 3) 3 dL_law_444 rfl rfl ?_
        refine V_iconst X (v := (1 : Int32)) dL_law_445 (by decide) ?_
        refine V_iadd X dL_law_446 ?_
        obtain ⟨g66, h⟩ := h
        refine V_sld X hX hbl g66 dL_law_447 ?_
        refine V_aload_n X (i := 0) 0 dL_law_448 rfl rfl ?_
        refine V_iload_n X (i := 3) 3 dL_law_449 rfl rfl ?_
        refine V_iconst X (v := (2 : Int32)) dL_law_450 (by decide) ?_
        refine V_iadd X dL_law_451 ?_
        obtain ⟨g67, h⟩ := h
        refine V_sld X hX hbl g67 dL_law_452 ?_
        refine V_aload_n X (i := 0) 0 dL_law_453 rfl rfl ?_
        refine V_iload_n X (i := 3) 3 dL_law_454 rfl rfl ?_
        refine V_iconst X (v := (3 : Int32)) dL_law_455 (by decide) ?_
        refine V_iadd X dL_law_456 ?_
        obtain ⟨g68, h⟩ := h
        refine V_sld X hX hbl g68 dL_law_457 ?_
        refine K_12_mark X (Or.inl q_1625) hZ h ⟨Nat.le_of_ble_eq_true rfl, Nat.le_of_ble_eq_true rfl⟩ ⟨Nat.le_of_ble_eq_true rfl, Nat.le_of_ble_eq_true rfl⟩ (st1 := [.int r65]) (Nat.le_of_ble_eq_true rfl) dL_law_458 (fun r70 w69 v71 h => ?_)
        obtain ⟨ht, hf⟩ := h
        refine V_icmp_eq X (tgt := 1433) dL_law_461 (by decide) (fun c => ?_) (fun c => ?_)
        · have h := ht c
          refine V_sub X (ls1 := [(0, .ref b), (1, .ref (ad 0)), (2, .ref (ad 150)), (3, .int l3)]) [0, 1, 2, 3] rfl ?_
          exact v_law_b1433 X hr hZ hX hbl ih _ _ _ _ h
        · have h := hf c
          refine V_iconst X (v := (0 : Int32)) dL_law_464 (by decide) ?_
          exact h.elim
      have h := h c7
      obtain ⟨ht, h⟩ := h
      by_cases c8 : ((xs (ix l3)) &&& (63 : Int32)) = (8 : Int32)
      · have h := ht c8
        refine V_tableIn X (tgt := 466) dL_law_33 (by rw [c8]; decide) (by rw [c8]; decide) (off := 433) (by rw [c8]; decide) (by decide) ?_
        refine V_aload_n X (i := 1) 1 dL_law_466 rfl rfl ?_
        refine V_aload_n X (i := 0) 0 dL_law_467 rfl rfl ?_
        refine V_iload_n X (i := 3) 3 dL_law_468 rfl rfl ?_
        refine V_iconst X (v := (1 : Int32)) dL_law_469 (by decide) ?_
        refine V_iadd X dL_law_470 ?_
        obtain ⟨g72, h⟩ := h
        refine V_sld X hX hbl g72 dL_law_471 ?_
        refine K_11_points X (Or.inl q_851) h ⟨Nat.le_of_ble_eq_true rfl, Nat.le_of_ble_eq_true rfl⟩ ⟨Nat.le_of_ble_eq_true rfl, Nat.le_of_ble_eq_true rfl⟩ (st1 := []) (Nat.le_of_ble_eq_true rfl) dL_law_472 (fun r74 w73 h => ?_)
        refine V_aload_n X (i := 2) 2 dL_law_475 rfl rfl ?_
        refine V_aload_n X (i := 0) 0 dL_law_476 rfl rfl ?_
        refine V_iload_n X (i := 3) 3 dL_law_477 rfl rfl ?_
        refine V_iconst X (v := (1 : Int32)) dL_law_478 (by decide) ?_
        refine V_iadd X dL_law_479 ?_
        obtain ⟨g75, h⟩ := h
        refine V_sld X hX hbl g75 dL_law_480 ?_
        refine K_12_points X (Or.inl q_1633) hZ h ⟨Nat.le_of_ble_eq_true rfl, Nat.le_of_ble_eq_true rfl⟩ ⟨Nat.le_of_ble_eq_true rfl, Nat.le_of_ble_eq_true rfl⟩ (st1 := [.int r74]) (Nat.le_of_ble_eq_true rfl) dL_law_481 (fun r77 w76 v78 h => ?_)
        obtain ⟨ht, hf⟩ := h
        refine V_icmp_eq X (tgt := 1433) dL_law_484 (by decide) (fun c => ?_) (fun c => ?_)
        · have h := ht c
          refine V_sub X (ls1 := [(0, .ref b), (1, .ref (ad 0)), (2, .ref (ad 150)), (3, .int l3)]) [0, 1, 2, 3] rfl ?_
          exact v_law_b1433 X hr hZ hX hbl ih _ _ _ _ h
        · have h := hf c
          refine V_iconst X (v := (0 : Int32)) dL_law_487 (by decide) ?_
          exact h.elim
      have h := h c8
      obtain ⟨ht, h⟩ := h
      by_cases c9 : ((xs (ix l3)) &&& (63 : Int32)) = (9 : Int32)
      · have h := ht c9
        refine V_tableIn X (tgt := 489) dL_law_33 (by rw [c9]; decide) (by rw [c9]; decide) (off := 456) (by rw [c9]; decide) (by decide) ?_
        refine V_aload_n X (i := 1) 1 dL_law_489 rfl rfl ?_
        refine V_aload_n X (i := 0) 0 dL_law_490 rfl rfl ?_
        refine V_iload_n X (i := 3) 3 dL_law_491 rfl rfl ?_
        refine V_iconst X (v := (1 : Int32)) dL_law_492 (by decide) ?_
        refine V_iadd X dL_law_493 ?_
        obtain ⟨g79, h⟩ := h
        refine V_sld X hX hbl g79 dL_law_494 ?_
        refine K_11_rank X (Or.inl q_859) h ⟨Nat.le_of_ble_eq_true rfl, Nat.le_of_ble_eq_true rfl⟩ ⟨Nat.le_of_ble_eq_true rfl, Nat.le_of_ble_eq_true rfl⟩ (st1 := []) (Nat.le_of_ble_eq_true rfl) dL_law_495 (fun r81 w80 h => ?_)
        refine V_aload_n X (i := 2) 2 dL_law_498 rfl rfl ?_
        refine V_aload_n X (i := 0) 0 dL_law_499 rfl rfl ?_
        refine V_iload_n X (i := 3) 3 dL_law_500 rfl rfl ?_
        refine V_iconst X (v := (1 : Int32)) dL_law_501 (by decide) ?_
        refine V_iadd X dL_law_502 ?_
        obtain ⟨g82, h⟩ := h
        refine V_sld X hX hbl g82 dL_law_503 ?_
        refine K_12_rank X (Or.inl q_1637) hZ h ⟨Nat.le_of_ble_eq_true rfl, Nat.le_of_ble_eq_true rfl⟩ ⟨Nat.le_of_ble_eq_true rfl, Nat.le_of_ble_eq_true rfl⟩ (st1 := [.int r81]) (Nat.le_of_ble_eq_true rfl) dL_law_504 (fun r84 w83 v85 h => ?_)
        obtain ⟨ht, hf⟩ := h
        refine V_icmp_eq X (tgt := 1433) dL_law_507 (by decide) (fun c => ?_) (fun c => ?_)
        · have h := ht c
          refine V_sub X (ls1 := [(0, .ref b), (1, .ref (ad 0)), (2, .ref (ad 150)), (3, .int l3)]) [0, 1, 2, 3] rfl ?_
          exact v_law_b1433 X hr hZ hX hbl ih _ _ _ _ h
        · have h := hf c
          refine V_iconst X (v := (0 : Int32)) dL_law_510 (by decide) ?_
          exact h.elim
      have h := h c9
      obtain ⟨ht, h⟩ := h
      by_cases c10 : ((xs (ix l3)) &&& (63 : Int32)) = (10 : Int32)
      · have h := ht c10
        refine V_tableIn X (tgt := 512) dL_law_33 (by rw [c10]; decide) (by rw [c10]; decide) (off := 479) (by rw [c10]; decide) (by decide) ?_
        refine V_aload_n X (i := 1) 1 dL_law_512 rfl rfl ?_
        refine V_aload_n X (i := 0) 0 dL_law_513 rfl rfl ?_
        refine V_iload_n X (i := 3) 3 dL_law_514 rfl rfl ?_
        refine V_iconst X (v := (1 : Int32)) dL_law_515 (by decide) ?_
        refine V_iadd X dL_law_516 ?_
        obtain ⟨g86, h⟩ := h
        refine V_sld X hX hbl g86 dL_law_517 ?_
        refine K_11_ranked X (Or.inl q_870) h ⟨Nat.le_of_ble_eq_true rfl, Nat.le_of_ble_eq_true rfl⟩ ⟨Nat.le_of_ble_eq_true rfl, Nat.le_of_ble_eq_true rfl⟩ (st1 := []) (Nat.le_of_ble_eq_true rfl) dL_law_518 (fun r88 w87 h => ?_)
        refine V_aload_n X (i := 2) 2 dL_law_521 rfl rfl ?_
        refine V_aload_n X (i := 0) 0 dL_law_522 rfl rfl ?_
        refine V_iload_n X (i := 3) 3 dL_law_523 rfl rfl ?_
        refine V_iconst X (v := (1 : Int32)) dL_law_524 (by decide) ?_
        refine V_iadd X dL_law_525 ?_
        obtain ⟨g89, h⟩ := h
        refine V_sld X hX hbl g89 dL_law_526 ?_
        refine K_12_ranked X (Or.inl q_1641) hZ h ⟨Nat.le_of_ble_eq_true rfl, Nat.le_of_ble_eq_true rfl⟩ ⟨Nat.le_of_ble_eq_true rfl, Nat.le_of_ble_eq_true rfl⟩ (st1 := [.int r88]) (Nat.le_of_ble_eq_true rfl) dL_law_527 (fun r91 w90 v92 h => ?_)
        obtain ⟨ht, hf⟩ := h
        refine V_icmp_eq X (tgt := 1433) dL_law_530 (by decide) (fun c => ?_) (fun c => ?_)
        · have h := ht c
          refine V_sub X (ls1 := [(0, .ref b), (1, .ref (ad 0)), (2, .ref (ad 150)), (3, .int l3)]) [0, 1, 2, 3] rfl ?_
          exact v_law_b1433 X hr hZ hX hbl ih _ _ _ _ h
        · have h := hf c
          refine V_iconst X (v := (0 : Int32)) dL_law_533 (by decide) ?_
          exact h.elim
      have h := h c10
      obtain ⟨ht, h⟩ := h
      by_cases c11 : ((xs (ix l3)) &&& (63 : Int32)) = (11 : Int32)
      · have h := ht c11
        refine V_tableIn X (tgt := 535) dL_law_33 (by rw [c11]; decide) (by rw [c11]; decide) (off := 502) (by rw [c11]; decide) (by decide) ?_
        refine V_aload_n X (i := 1) 1 dL_law_535 rfl rfl ?_
        refine V_aload_n X (i := 0) 0 dL_law_536 rfl rfl ?_
        refine V_iload_n X (i := 3) 3 dL_law_537 rfl rfl ?_
        refine V_iconst X (v := (1 : Int32)) dL_law_538 (by decide) ?_
        refine V_iadd X dL_law_539 ?_
        obtain ⟨g93, h⟩ := h
        refine V_sld X hX hbl g93 dL_law_540 ?_
        refine K_11_start X (Or.inl q_879) h ⟨Nat.le_of_ble_eq_true rfl, Nat.le_of_ble_eq_true rfl⟩ ⟨Nat.le_of_ble_eq_true rfl, Nat.le_of_ble_eq_true rfl⟩ (st1 := []) (Nat.le_of_ble_eq_true rfl) dL_law_541 (fun r95 w94 h => ?_)
        refine V_aload_n X (i := 2) 2 dL_law_544 rfl rfl ?_
        refine V_aload_n X (i := 0) 0 dL_law_545 rfl rfl ?_
        refine V_iload_n X (i := 3) 3 dL_law_546 rfl rfl ?_
        refine V_iconst X (v := (1 : Int32)) dL_law_547 (by decide) ?_
        refine V_iadd X dL_law_548 ?_
        obtain ⟨g96, h⟩ := h
        refine V_sld X hX hbl g96 dL_law_549 ?_
        refine K_12_start X (Or.inl q_1645) hZ h ⟨Nat.le_of_ble_eq_true rfl, Nat.le_of_ble_eq_true rfl⟩ ⟨Nat.le_of_ble_eq_true rfl, Nat.le_of_ble_eq_true rfl⟩ (st1 := [.int r95]) (Nat.le_of_ble_eq_true rfl) dL_law_550 (fun r98 w97 v99 h => ?_)
        obtain ⟨ht, hf⟩ := h
        refine V_icmp_eq X (tgt := 1433) dL_law_553 (by decide) (fun c => ?_) (fun c => ?_)
        · have h := ht c
          refine V_sub X (ls1 := [(0, .ref b), (1, .ref (ad 0)), (2, .ref (ad 150)), (3, .int l3)]) [0, 1, 2, 3] rfl ?_
          exact v_law_b1433 X hr hZ hX hbl ih _ _ _ _ h
        · have h := hf c
          refine V_iconst X (v := (0 : Int32)) dL_law_556 (by decide) ?_
          exact h.elim
      have h := h c11
      obtain ⟨ht, h⟩ := h
      by_cases c12 : ((xs (ix l3)) &&& (63 : Int32)) = (12 : Int32)
      · have h := ht c12
        refine V_tableIn X (tgt := 558) dL_law_33 (by rw [c12]; decide) (by rw [c12]; decide) (off := 525) (by rw [c12]; decide) (by decide) ?_
        refine V_aload_n X (i := 1) 1 dL_law_558 rfl rfl ?_
        refine V_aload_n X (i := 0) 0 dL_law_559 rfl rfl ?_
        refine V_iload_n X (i := 3) 3 dL_law_560 rfl rfl ?_
        refine V_iconst X (v := (1 : Int32)) dL_law_561 (by decide) ?_
        refine V_iadd X dL_law_562 ?_
        obtain ⟨g100, h⟩ := h
        refine V_sld X hX hbl g100 dL_law_563 ?_
        refine K_11_letGo X (Or.inl q_950) h ⟨Nat.le_of_ble_eq_true rfl, Nat.le_of_ble_eq_true rfl⟩ ⟨Nat.le_of_ble_eq_true rfl, Nat.le_of_ble_eq_true rfl⟩ (st1 := []) (Nat.le_of_ble_eq_true rfl) dL_law_564 (fun r102 w101 h => ?_)
        refine V_aload_n X (i := 2) 2 dL_law_567 rfl rfl ?_
        refine V_aload_n X (i := 0) 0 dL_law_568 rfl rfl ?_
        refine V_iload_n X (i := 3) 3 dL_law_569 rfl rfl ?_
        refine V_iconst X (v := (1 : Int32)) dL_law_570 (by decide) ?_
        refine V_iadd X dL_law_571 ?_
        obtain ⟨g103, h⟩ := h
        refine V_sld X hX hbl g103 dL_law_572 ?_
        refine K_12_letGo X (Or.inl q_1688) hZ h ⟨Nat.le_of_ble_eq_true rfl, Nat.le_of_ble_eq_true rfl⟩ ⟨Nat.le_of_ble_eq_true rfl, Nat.le_of_ble_eq_true rfl⟩ (st1 := [.int r102]) (Nat.le_of_ble_eq_true rfl) dL_law_573 (fun r105 w104 v106 h => ?_)
        obtain ⟨ht, hf⟩ := h
        refine V_icmp_eq X (tgt := 1433) dL_law_576 (by decide) (fun c => ?_) (fun c => ?_)
        · have h := ht c
          refine V_sub X (ls1 := [(0, .ref b), (1, .ref (ad 0)), (2, .ref (ad 150)), (3, .int l3)]) [0, 1, 2, 3] rfl ?_
          exact v_law_b1433 X hr hZ hX hbl ih _ _ _ _ h
        · have h := hf c
          refine V_iconst X (v := (0 : Int32)) dL_law_579 (by decide) ?_
          exact h.elim
      have h := h c12
      obtain ⟨ht, h⟩ := h
      by_cases c13 : ((xs (ix l3)) &&& (63 : Int32)) = (13 : Int32)
      · have h := ht c13
        refine V_tableIn X (tgt := 581) dL_law_33 (by rw [c13]; decide) (by rw [c13]; decide) (off := 548) (by rw [c13]; decide) (by decide) ?_
        refine V_aload_n X (i := 1) 1 dL_law_581 rfl rfl ?_
        refine V_aload_n X (i := 0) 0 dL_law_582 rfl rfl ?_
        refine V_iload_n X (i := 3) 3 dL_law_583 rfl rfl ?_
        refine V_iconst X (v := (1 : Int32)) dL_law_584 (by decide) ?_
        refine V_iadd X dL_law_585 ?_
        obtain ⟨g107, h⟩ := h
        refine V_sld X hX hbl g107 dL_law_586 ?_
        refine K_11_gate X (Or.inl q_954) h ⟨Nat.le_of_ble_eq_true rfl, Nat.le_of_ble_eq_true rfl⟩ ⟨Nat.le_of_ble_eq_true rfl, Nat.le_of_ble_eq_true rfl⟩ (st1 := []) (Nat.le_of_ble_eq_true rfl) dL_law_587 (fun r109 w108 h => ?_)
        refine V_aload_n X (i := 2) 2 dL_law_590 rfl rfl ?_
        refine V_aload_n X (i := 0) 0 dL_law_591 rfl rfl ?_
        refine V_iload_n X (i := 3) 3 dL_law_592 rfl rfl ?_
        refine V_iconst X (v := (1 : Int32)) dL_law_593 (by decide) ?_
        refine V_iadd X dL_law_594 ?_
        obtain ⟨g110, h⟩ := h
        refine V_sld X hX hbl g110 dL_law_595 ?_
        refine K_12_gate X (Or.inl q_1692) hZ h ⟨Nat.le_of_ble_eq_true rfl, Nat.le_of_ble_eq_true rfl⟩ ⟨Nat.le_of_ble_eq_true rfl, Nat.le_of_ble_eq_true rfl⟩ (st1 := [.int r109]) (Nat.le_of_ble_eq_true rfl) dL_law_596 (fun r112 w111 v113 h => ?_)
        obtain ⟨ht, hf⟩ := h
        refine V_icmp_eq X (tgt := 1433) dL_law_599 (by decide) (fun c => ?_) (fun c => ?_)
        · have h := ht c
          refine V_sub X (ls1 := [(0, .ref b), (1, .ref (ad 0)), (2, .ref (ad 150)), (3, .int l3)]) [0, 1, 2, 3] rfl ?_
          exact v_law_b1433 X hr hZ hX hbl ih _ _ _ _ h
        · have h := hf c
          refine V_iconst X (v := (0 : Int32)) dL_law_602 (by decide) ?_
          exact h.elim
      have h := h c13
      obtain ⟨ht, h⟩ := h
      by_cases c14 : ((xs (ix l3)) &&& (63 : Int32)) = (14 : Int32)
      · have h := ht c14
        refine V_tableIn X (tgt := 604) dL_law_33 (by rw [c14]; decide) (by rw [c14]; decide) (off := 571) (by rw [c14]; decide) (by decide) ?_
        refine V_aload_n X (i := 1) 1 dL_law_604 rfl rfl ?_
        refine V_aload_n X (i := 0) 0 dL_law_605 rfl rfl ?_
        refine V_iload_n X (i := 3) 3 dL_law_606 rfl rfl ?_
        refine V_iconst X (v := (1 : Int32)) dL_law_607 (by decide) ?_
        refine V_iadd X dL_law_608 ?_
        obtain ⟨g114, h⟩ := h
        refine V_sld X hX hbl g114 dL_law_609 ?_
        refine K_11_pause X (Or.inl q_961) h ⟨Nat.le_of_ble_eq_true rfl, Nat.le_of_ble_eq_true rfl⟩ ⟨Nat.le_of_ble_eq_true rfl, Nat.le_of_ble_eq_true rfl⟩ (st1 := []) (Nat.le_of_ble_eq_true rfl) dL_law_610 (fun r116 w115 h => ?_)
        refine V_aload_n X (i := 2) 2 dL_law_613 rfl rfl ?_
        refine V_aload_n X (i := 0) 0 dL_law_614 rfl rfl ?_
        refine V_iload_n X (i := 3) 3 dL_law_615 rfl rfl ?_
        refine V_iconst X (v := (1 : Int32)) dL_law_616 (by decide) ?_
        refine V_iadd X dL_law_617 ?_
        obtain ⟨g117, h⟩ := h
        refine V_sld X hX hbl g117 dL_law_618 ?_
        refine K_12_pause X (Or.inl q_1696) hZ h ⟨Nat.le_of_ble_eq_true rfl, Nat.le_of_ble_eq_true rfl⟩ ⟨Nat.le_of_ble_eq_true rfl, Nat.le_of_ble_eq_true rfl⟩ (st1 := [.int r116]) (Nat.le_of_ble_eq_true rfl) dL_law_619 (fun r119 w118 v120 h => ?_)
        obtain ⟨ht, hf⟩ := h
        refine V_icmp_eq X (tgt := 1433) dL_law_622 (by decide) (fun c => ?_) (fun c => ?_)
        · have h := ht c
          refine V_sub X (ls1 := [(0, .ref b), (1, .ref (ad 0)), (2, .ref (ad 150)), (3, .int l3)]) [0, 1, 2, 3] rfl ?_
          exact v_law_b1433 X hr hZ hX hbl ih _ _ _ _ h
        · have h := hf c
          refine V_iconst X (v := (0 : Int32)) dL_law_625 (by decide) ?_
          exact h.elim
      have h := h c14
      obtain ⟨ht, h⟩ := h
      by_cases c15 : ((xs (ix l3)) &&& (63 : Int32)) = (15 : Int32)
      · have h := ht c15
        refine V_tableIn X (tgt := 627) dL_law_33 (by rw [c15]; decide) (by rw [c15]; decide) (off := 594) (by rw [c15]; decide) (by decide) ?_
        refine V_aload_n X (i := 1) 1 dL_law_627 rfl rfl ?_
        refine K_11_undo X (Or.inl q_965) h ⟨Nat.le_of_ble_eq_true rfl, Nat.le_of_ble_eq_true rfl⟩ ⟨Nat.le_of_ble_eq_true rfl, Nat.le_of_ble_eq_true rfl⟩ (st1 := []) (Nat.le_of_ble_eq_true rfl) dL_law_628 (fun r122 w121 h => ?_)
        refine V_aload_n X (i := 2) 2 dL_law_631 rfl rfl ?_
        refine K_12_undo X (Or.inl q_1700) hZ h ⟨Nat.le_of_ble_eq_true rfl, Nat.le_of_ble_eq_true rfl⟩ ⟨Nat.le_of_ble_eq_true rfl, Nat.le_of_ble_eq_true rfl⟩ (st1 := [.int r122]) (Nat.le_of_ble_eq_true rfl) dL_law_632 (fun r124 w123 v125 h => ?_)
        obtain ⟨ht, hf⟩ := h
        refine V_icmp_eq X (tgt := 1433) dL_law_635 (by decide) (fun c => ?_) (fun c => ?_)
        · have h := ht c
          refine V_sub X (ls1 := [(0, .ref b), (1, .ref (ad 0)), (2, .ref (ad 150)), (3, .int l3)]) [0, 1, 2, 3] rfl ?_
          exact v_law_b1433 X hr hZ hX hbl ih _ _ _ _ h
        · have h := hf c
          refine V_iconst X (v := (0 : Int32)) dL_law_638 (by decide) ?_
          exact h.elim
      have h := h c15
      obtain ⟨ht, h⟩ := h
      by_cases c16 : ((xs (ix l3)) &&& (63 : Int32)) = (16 : Int32)
      · have h := ht c16
        refine V_tableIn X (tgt := 640) dL_law_33 (by rw [c16]; decide) (by rw [c16]; decide) (off := 607) (by rw [c16]; decide) (by decide) ?_
        refine V_aload_n X (i := 1) 1 dL_law_640 rfl rfl ?_
        refine V_aload_n X (i := 0) 0 dL_law_641 rfl rfl ?_
        refine V_iload_n X (i := 3) 3 dL_law_642 rfl rfl ?_
        refine V_iconst X (v := (1 : Int32)) dL_law_643 (by decide) ?_
        refine V_iadd X dL_law_644 ?_
        obtain ⟨g126, h⟩ := h
        refine V_sld X hX hbl g126 dL_law_645 ?_
        refine V_aload_n X (i := 0) 0 dL_law_646 rfl rfl ?_
        refine V_iload_n X (i := 3) 3 dL_law_647 rfl rfl ?_
        refine V_iconst X (v := (2 : Int32)) dL_law_648 (by decide) ?_
        refine V_iadd X dL_law_649 ?_
        obtain ⟨g127, h⟩ := h
        refine V_sld X hX hbl g127 dL_law_650 ?_
        refine V_aload_n X (i := 0) 0 dL_law_651 rfl rfl ?_
        refine V_iload_n X (i := 3) 3 dL_law_652 rfl rfl ?_
        refine V_iconst X (v := (3 : Int32)) dL_law_653 (by decide) ?_
        refine V_iadd X dL_law_654 ?_
        obtain ⟨g128, h⟩ := h
        refine V_sld X hX hbl g128 dL_law_655 ?_
        refine V_aload_n X (i := 0) 0 dL_law_656 rfl rfl ?_
        refine V_iload_n X (i := 3) 3 dL_law_657 rfl rfl ?_
        refine V_iconst X (v := (4 : Int32)) dL_law_658 (by decide) ?_
        refine V_iadd X dL_law_659 ?_
        obtain ⟨g129, h⟩ := h
        refine V_sld X hX hbl g129 dL_law_660 ?_
        refine K_11_attempt X (Or.inl q_977) h ⟨Nat.le_of_ble_eq_true rfl, Nat.le_of_ble_eq_true rfl⟩ ⟨Nat.le_of_ble_eq_true rfl, Nat.le_of_ble_eq_true rfl⟩ (st1 := []) (Nat.le_of_ble_eq_true rfl) dL_law_661 (fun r131 w130 h => ?_)
        refine V_aload_n X (i := 2) 2 dL_law_664 rfl rfl ?_
        refine V_aload_n X (i := 0) 0 dL_law_665 rfl rfl ?_
        refine V_iload_n X (i := 3) 3 dL_law_666 rfl rfl ?_
        refine V_iconst X (v := (1 : Int32)) dL_law_667 (by decide) ?_
        refine V_iadd X dL_law_668 ?_
        obtain ⟨g132, h⟩ := h
        refine V_sld X hX hbl g132 dL_law_669 ?_
        refine V_aload_n X (i := 0) 0 dL_law_670 rfl rfl ?_
        refine V_iload_n X (i := 3) 3 dL_law_671 rfl rfl ?_
        refine V_iconst X (v := (2 : Int32)) dL_law_672 (by decide) ?_
        refine V_iadd X dL_law_673 ?_
        obtain ⟨g133, h⟩ := h
        refine V_sld X hX hbl g133 dL_law_674 ?_
        refine V_aload_n X (i := 0) 0 dL_law_675 rfl rfl ?_
        refine V_iload_n X (i := 3) 3 dL_law_676 rfl rfl ?_
        refine V_iconst X (v := (3 : Int32)) dL_law_677 (by decide) ?_
        refine V_iadd X dL_law_678 ?_
        obtain ⟨g134, h⟩ := h
        refine V_sld X hX hbl g134 dL_law_679 ?_
        refine V_aload_n X (i := 0) 0 dL_law_680 rfl rfl ?_
        refine V_iload_n X (i := 3) 3 dL_law_681 rfl rfl ?_
        refine V_iconst X (v := (4 : Int32)) dL_law_682 (by decide) ?_
        refine V_iadd X dL_law_683 ?_
        obtain ⟨g135, h⟩ := h
        refine V_sld X hX hbl g135 dL_law_684 ?_
        refine K_12_attempt X (Or.inl q_1704) hZ h ⟨Nat.le_of_ble_eq_true rfl, Nat.le_of_ble_eq_true rfl⟩ ⟨Nat.le_of_ble_eq_true rfl, Nat.le_of_ble_eq_true rfl⟩ (st1 := [.int r131]) (Nat.le_of_ble_eq_true rfl) dL_law_685 (fun r137 w136 v138 h => ?_)
        obtain ⟨ht, hf⟩ := h
        refine V_icmp_eq X (tgt := 1433) dL_law_688 (by decide) (fun c => ?_) (fun c => ?_)
        · have h := ht c
          refine V_sub X (ls1 := [(0, .ref b), (1, .ref (ad 0)), (2, .ref (ad 150)), (3, .int l3)]) [0, 1, 2, 3] rfl ?_
          exact v_law_b1433 X hr hZ hX hbl ih _ _ _ _ h
        · have h := hf c
          refine V_iconst X (v := (0 : Int32)) dL_law_691 (by decide) ?_
          exact h.elim
      have h := h c16
      obtain ⟨ht, h⟩ := h
      by_cases c17 : ((xs (ix l3)) &&& (63 : Int32)) = (17 : Int32)
      · have h := ht c17
        refine V_tableIn X (tgt := 693) dL_law_33 (by rw [c17]; decide) (by rw [c17]; decide) (off := 660) (by rw [c17]; decide) (by decide) ?_
        refine V_aload_n X (i := 1) 1 dL_law_693 rfl rfl ?_
        refine V_aload_n X (i := 0) 0 dL_law_694 rfl rfl ?_
        refine V_iload_n X (i := 3) 3 dL_law_695 rfl rfl ?_
        refine V_iconst X (v := (1 : Int32)) dL_law_696 (by decide) ?_
        refine V_iadd X dL_law_697 ?_
        obtain ⟨g139, h⟩ := h
        refine V_sld X hX hbl g139 dL_law_698 ?_
        refine V_aload_n X (i := 0) 0 dL_law_699 rfl rfl ?_
        refine V_iload_n X (i := 3) 3 dL_law_700 rfl rfl ?_
        refine V_iconst X (v := (2 : Int32)) dL_law_701 (by decide) ?_
        refine V_iadd X dL_law_702 ?_
        obtain ⟨g140, h⟩ := h
        refine V_sld X hX hbl g140 dL_law_703 ?_
        refine K_11_wait X (Or.inl q_992) h ⟨Nat.le_of_ble_eq_true rfl, Nat.le_of_ble_eq_true rfl⟩ ⟨Nat.le_of_ble_eq_true rfl, Nat.le_of_ble_eq_true rfl⟩ (st1 := []) (Nat.le_of_ble_eq_true rfl) dL_law_704 (fun r142 w141 h => ?_)
        refine V_aload_n X (i := 2) 2 dL_law_707 rfl rfl ?_
        refine V_aload_n X (i := 0) 0 dL_law_708 rfl rfl ?_
        refine V_iload_n X (i := 3) 3 dL_law_709 rfl rfl ?_
        refine V_iconst X (v := (1 : Int32)) dL_law_710 (by decide) ?_
        refine V_iadd X dL_law_711 ?_
        obtain ⟨g143, h⟩ := h
        refine V_sld X hX hbl g143 dL_law_712 ?_
        refine V_aload_n X (i := 0) 0 dL_law_713 rfl rfl ?_
        refine V_iload_n X (i := 3) 3 dL_law_714 rfl rfl ?_
        refine V_iconst X (v := (2 : Int32)) dL_law_715 (by decide) ?_
        refine V_iadd X dL_law_716 ?_
        obtain ⟨g144, h⟩ := h
        refine V_sld X hX hbl g144 dL_law_717 ?_
        refine K_12_wait X (Or.inl q_1712) hZ h ⟨Nat.le_of_ble_eq_true rfl, Nat.le_of_ble_eq_true rfl⟩ ⟨Nat.le_of_ble_eq_true rfl, Nat.le_of_ble_eq_true rfl⟩ (st1 := [.int r142]) (Nat.le_of_ble_eq_true rfl) dL_law_718 (fun r146 w145 v147 h => ?_)
        obtain ⟨ht, hf⟩ := h
        refine V_icmp_eq X (tgt := 1433) dL_law_721 (by decide) (fun c => ?_) (fun c => ?_)
        · have h := ht c
          refine V_sub X (ls1 := [(0, .ref b), (1, .ref (ad 0)), (2, .ref (ad 150)), (3, .int l3)]) [0, 1, 2, 3] rfl ?_
          exact v_law_b1433 X hr hZ hX hbl ih _ _ _ _ h
        · have h := hf c
          refine V_iconst X (v := (0 : Int32)) dL_law_724 (by decide) ?_
          exact h.elim
      have h := h c17
      obtain ⟨ht, h⟩ := h
      by_cases c18 : ((xs (ix l3)) &&& (63 : Int32)) = (18 : Int32)
      · have h := ht c18
        refine V_tableIn X (tgt := 726) dL_law_33 (by rw [c18]; decide) (by rw [c18]; decide) (off := 693) (by rw [c18]; decide) (by decide) ?_
        refine V_aload_n X (i := 1) 1 dL_law_726 rfl rfl ?_
        refine V_aload_n X (i := 0) 0 dL_law_727 rfl rfl ?_
        refine V_iload_n X (i := 3) 3 dL_law_728 rfl rfl ?_
        refine V_iconst X (v := (1 : Int32)) dL_law_729 (by decide) ?_
        refine V_iadd X dL_law_730 ?_
        obtain ⟨g148, h⟩ := h
        refine V_sld X hX hbl g148 dL_law_731 ?_
        refine V_aload_n X (i := 0) 0 dL_law_732 rfl rfl ?_
        refine V_iload_n X (i := 3) 3 dL_law_733 rfl rfl ?_
        refine V_iconst X (v := (2 : Int32)) dL_law_734 (by decide) ?_
        refine V_iadd X dL_law_735 ?_
        obtain ⟨g149, h⟩ := h
        refine V_sld X hX hbl g149 dL_law_736 ?_
        refine V_aload_n X (i := 0) 0 dL_law_737 rfl rfl ?_
        refine V_iload_n X (i := 3) 3 dL_law_738 rfl rfl ?_
        refine V_iconst X (v := (3 : Int32)) dL_law_739 (by decide) ?_
        refine V_iadd X dL_law_740 ?_
        obtain ⟨g150, h⟩ := h
        refine V_sld X hX hbl g150 dL_law_741 ?_
        obtain ⟨ht, hf⟩ := h
        refine V_if_eq X (tgt := 749) dL_law_742 (by decide) (fun c => ?_) (fun c => ?_)
        · have h := ht c
          refine V_iconst X (v := (0 : Int32)) dL_law_749 (by decide) ?_
          refine V_sub X (ls1 := [(0, .ref b), (1, .ref (ad 0)), (2, .ref (ad 150)), (3, .int l3)]) [0, 1, 2, 3] rfl ?_
          exact v_law_b750 X hr hZ hX hbl ih _ _ _ _ _ _ _ h
        · have h := hf c
          refine V_iconst X (v := (1 : Int32)) dL_law_745 (by decide) ?_
          refine V_goto X (tgt := 750) dL_law_746 (by decide) ?_
          refine V_sub X (ls1 := [(0, .ref b), (1, .ref (ad 0)), (2, .ref (ad 150)), (3, .int l3)]) [0, 1, 2, 3] rfl ?_
          exact v_law_b750 X hr hZ hX hbl ih _ _ _ _ _ _ _ h
      have h := h c18
      obtain ⟨ht, h⟩ := h
      by_cases c19 : ((xs (ix l3)) &&& (63 : Int32)) = (19 : Int32)
      · have h := ht c19
        refine V_tableIn X (tgt := 785) dL_law_33 (by rw [c19]; decide) (by rw [c19]; decide) (off := 752) (by rw [c19]; decide) (by decide) ?_
        refine V_aload_n X (i := 1) 1 dL_law_785 rfl rfl ?_
        refine V_aload_n X (i := 0) 0 dL_law_786 rfl rfl ?_
        refine V_iload_n X (i := 3) 3 dL_law_787 rfl rfl ?_
        refine V_iconst X (v := (1 : Int32)) dL_law_788 (by decide) ?_
        refine V_iadd X dL_law_789 ?_
        obtain ⟨g151, h⟩ := h
        refine V_sld X hX hbl g151 dL_law_790 ?_
        refine V_aload_n X (i := 0) 0 dL_law_791 rfl rfl ?_
        refine V_iload_n X (i := 3) 3 dL_law_792 rfl rfl ?_
        refine V_iconst X (v := (2 : Int32)) dL_law_793 (by decide) ?_
        refine V_iadd X dL_law_794 ?_
        obtain ⟨g152, h⟩ := h
        refine V_sld X hX hbl g152 dL_law_795 ?_
        refine V_aload_n X (i := 0) 0 dL_law_796 rfl rfl ?_
        refine V_iload_n X (i := 3) 3 dL_law_797 rfl rfl ?_
        refine V_iconst X (v := (3 : Int32)) dL_law_798 (by decide) ?_
        refine V_iadd X dL_law_799 ?_
        obtain ⟨g153, h⟩ := h
        refine V_sld X hX hbl g153 dL_law_800 ?_
        refine K_11_pound X (Or.inl q_1000) h ⟨Nat.le_of_ble_eq_true rfl, Nat.le_of_ble_eq_true rfl⟩ ⟨Nat.le_of_ble_eq_true rfl, Nat.le_of_ble_eq_true rfl⟩ (st1 := []) (Nat.le_of_ble_eq_true rfl) dL_law_801 (fun r155 w154 h => ?_)
        refine V_aload_n X (i := 2) 2 dL_law_804 rfl rfl ?_
        refine V_aload_n X (i := 0) 0 dL_law_805 rfl rfl ?_
        refine V_iload_n X (i := 3) 3 dL_law_806 rfl rfl ?_
        refine V_iconst X (v := (1 : Int32)) dL_law_807 (by decide) ?_
        refine V_iadd X dL_law_808 ?_
        obtain ⟨g156, h⟩ := h
        refine V_sld X hX hbl g156 dL_law_809 ?_
        refine V_aload_n X (i := 0) 0 dL_law_810 rfl rfl ?_
        refine V_iload_n X (i := 3) 3 dL_law_811 rfl rfl ?_
        refine V_iconst X (v := (2 : Int32)) dL_law_812 (by decide) ?_
        refine V_iadd X dL_law_813 ?_
        obtain ⟨g157, h⟩ := h
        refine V_sld X hX hbl g157 dL_law_814 ?_
        refine V_aload_n X (i := 0) 0 dL_law_815 rfl rfl ?_
        refine V_iload_n X (i := 3) 3 dL_law_816 rfl rfl ?_
        refine V_iconst X (v := (3 : Int32)) dL_law_817 (by decide) ?_
        refine V_iadd X dL_law_818 ?_
        obtain ⟨g158, h⟩ := h
        refine V_sld X hX hbl g158 dL_law_819 ?_
        refine K_12_pound X (Or.inl q_1720) hZ h ⟨Nat.le_of_ble_eq_true rfl, Nat.le_of_ble_eq_true rfl⟩ ⟨Nat.le_of_ble_eq_true rfl, Nat.le_of_ble_eq_true rfl⟩ (st1 := [.int r155]) (Nat.le_of_ble_eq_true rfl) dL_law_820 (fun r160 w159 v161 h => ?_)
        obtain ⟨ht, hf⟩ := h
        refine V_icmp_eq X (tgt := 1433) dL_law_823 (by decide) (fun c => ?_) (fun c => ?_)
        · have h := ht c
          refine V_sub X (ls1 := [(0, .ref b), (1, .ref (ad 0)), (2, .ref (ad 150)), (3, .int l3)]) [0, 1, 2, 3] rfl ?_
          exact v_law_b1433 X hr hZ hX hbl ih _ _ _ _ h
        · have h := hf c
          refine V_iconst X (v := (0 : Int32)) dL_law_826 (by decide) ?_
          exact h.elim
      have h := h c19
      obtain ⟨ht, h⟩ := h
      by_cases c20 : ((xs (ix l3)) &&& (63 : Int32)) = (20 : Int32)
      · have h := ht c20
        refine V_tableIn X (tgt := 828) dL_law_33 (by rw [c20]; decide) (by rw [c20]; decide) (off := 795) (by rw [c20]; decide) (by decide) ?_
        refine V_aload_n X (i := 1) 1 dL_law_828 rfl rfl ?_
        refine V_aload_n X (i := 0) 0 dL_law_829 rfl rfl ?_
        refine V_iload_n X (i := 3) 3 dL_law_830 rfl rfl ?_
        refine V_iconst X (v := (1 : Int32)) dL_law_831 (by decide) ?_
        refine V_iadd X dL_law_832 ?_
        obtain ⟨g162, h⟩ := h
        refine V_sld X hX hbl g162 dL_law_833 ?_
        refine K_11_gain X (Or.inl q_1005) h ⟨Nat.le_of_ble_eq_true rfl, Nat.le_of_ble_eq_true rfl⟩ ⟨Nat.le_of_ble_eq_true rfl, Nat.le_of_ble_eq_true rfl⟩ (st1 := []) (Nat.le_of_ble_eq_true rfl) dL_law_834 (fun r164 w163 h => ?_)
        refine V_aload_n X (i := 2) 2 dL_law_837 rfl rfl ?_
        refine V_aload_n X (i := 0) 0 dL_law_838 rfl rfl ?_
        refine V_iload_n X (i := 3) 3 dL_law_839 rfl rfl ?_
        refine V_iconst X (v := (1 : Int32)) dL_law_840 (by decide) ?_
        refine V_iadd X dL_law_841 ?_
        obtain ⟨g165, h⟩ := h
        refine V_sld X hX hbl g165 dL_law_842 ?_
        refine K_12_gain X (Or.inl q_1724) hZ h ⟨Nat.le_of_ble_eq_true rfl, Nat.le_of_ble_eq_true rfl⟩ ⟨Nat.le_of_ble_eq_true rfl, Nat.le_of_ble_eq_true rfl⟩ (st1 := [.int r164]) (Nat.le_of_ble_eq_true rfl) dL_law_843 (fun r167 w166 v168 h => ?_)
        obtain ⟨ht, hf⟩ := h
        refine V_icmp_eq X (tgt := 1433) dL_law_846 (by decide) (fun c => ?_) (fun c => ?_)
        · have h := ht c
          refine V_sub X (ls1 := [(0, .ref b), (1, .ref (ad 0)), (2, .ref (ad 150)), (3, .int l3)]) [0, 1, 2, 3] rfl ?_
          exact v_law_b1433 X hr hZ hX hbl ih _ _ _ _ h
        · have h := hf c
          refine V_iconst X (v := (0 : Int32)) dL_law_849 (by decide) ?_
          exact h.elim
      have h := h c20
      obtain ⟨ht, h⟩ := h
      by_cases c21 : ((xs (ix l3)) &&& (63 : Int32)) = (21 : Int32)
      · have h := ht c21
        refine V_tableIn X (tgt := 851) dL_law_33 (by rw [c21]; decide) (by rw [c21]; decide) (off := 818) (by rw [c21]; decide) (by decide) ?_
        refine V_aload_n X (i := 1) 1 dL_law_851 rfl rfl ?_
        refine V_aload_n X (i := 0) 0 dL_law_852 rfl rfl ?_
        refine V_iload_n X (i := 3) 3 dL_law_853 rfl rfl ?_
        refine V_iconst X (v := (1 : Int32)) dL_law_854 (by decide) ?_
        refine V_iadd X dL_law_855 ?_
        obtain ⟨g169, h⟩ := h
        refine V_sld X hX hbl g169 dL_law_856 ?_
        refine K_11_number X (Or.inl q_1013) h ⟨Nat.le_of_ble_eq_true rfl, Nat.le_of_ble_eq_true rfl⟩ ⟨Nat.le_of_ble_eq_true rfl, Nat.le_of_ble_eq_true rfl⟩ (st1 := []) (Nat.le_of_ble_eq_true rfl) dL_law_857 (fun r171 w170 h => ?_)
        refine V_aload_n X (i := 2) 2 dL_law_860 rfl rfl ?_
        refine V_aload_n X (i := 0) 0 dL_law_861 rfl rfl ?_
        refine V_iload_n X (i := 3) 3 dL_law_862 rfl rfl ?_
        refine V_iconst X (v := (1 : Int32)) dL_law_863 (by decide) ?_
        refine V_iadd X dL_law_864 ?_
        obtain ⟨g172, h⟩ := h
        refine V_sld X hX hbl g172 dL_law_865 ?_
        refine K_12_number X (Or.inl q_1728) hZ h ⟨Nat.le_of_ble_eq_true rfl, Nat.le_of_ble_eq_true rfl⟩ ⟨Nat.le_of_ble_eq_true rfl, Nat.le_of_ble_eq_true rfl⟩ (st1 := [.int r171]) (Nat.le_of_ble_eq_true rfl) dL_law_866 (fun r174 w173 v175 h => ?_)
        obtain ⟨ht, hf⟩ := h
        refine V_icmp_eq X (tgt := 1433) dL_law_869 (by decide) (fun c => ?_) (fun c => ?_)
        · have h := ht c
          refine V_sub X (ls1 := [(0, .ref b), (1, .ref (ad 0)), (2, .ref (ad 150)), (3, .int l3)]) [0, 1, 2, 3] rfl ?_
          exact v_law_b1433 X hr hZ hX hbl ih _ _ _ _ h
        · have h := hf c
          refine V_iconst X (v := (0 : Int32)) dL_law_872 (by decide) ?_
          exact h.elim
      have h := h c21
      obtain ⟨ht, h⟩ := h
      by_cases c22 : ((xs (ix l3)) &&& (63 : Int32)) = (22 : Int32)
      · have h := ht c22
        refine V_tableIn X (tgt := 874) dL_law_33 (by rw [c22]; decide) (by rw [c22]; decide) (off := 841) (by rw [c22]; decide) (by decide) ?_
        refine V_aload_n X (i := 1) 1 dL_law_874 rfl rfl ?_
        refine V_aload_n X (i := 0) 0 dL_law_875 rfl rfl ?_
        refine V_iload_n X (i := 3) 3 dL_law_876 rfl rfl ?_
        refine V_iconst X (v := (1 : Int32)) dL_law_877 (by decide) ?_
        refine V_iadd X dL_law_878 ?_
        obtain ⟨g176, h⟩ := h
        refine V_sld X hX hbl g176 dL_law_879 ?_
        refine K_11_gates X (Or.inl q_1017) h ⟨Nat.le_of_ble_eq_true rfl, Nat.le_of_ble_eq_true rfl⟩ ⟨Nat.le_of_ble_eq_true rfl, Nat.le_of_ble_eq_true rfl⟩ (st1 := []) (Nat.le_of_ble_eq_true rfl) dL_law_880 (fun r178 w177 h => ?_)
        refine V_aload_n X (i := 2) 2 dL_law_883 rfl rfl ?_
        refine V_aload_n X (i := 0) 0 dL_law_884 rfl rfl ?_
        refine V_iload_n X (i := 3) 3 dL_law_885 rfl rfl ?_
        refine V_iconst X (v := (1 : Int32)) dL_law_886 (by decide) ?_
        refine V_iadd X dL_law_887 ?_
        obtain ⟨g179, h⟩ := h
        refine V_sld X hX hbl g179 dL_law_888 ?_
        refine K_12_gates X (Or.inl q_1732) hZ h ⟨Nat.le_of_ble_eq_true rfl, Nat.le_of_ble_eq_true rfl⟩ ⟨Nat.le_of_ble_eq_true rfl, Nat.le_of_ble_eq_true rfl⟩ (st1 := [.int r178]) (Nat.le_of_ble_eq_true rfl) dL_law_889 (fun r181 w180 v182 h => ?_)
        obtain ⟨ht, hf⟩ := h
        refine V_icmp_eq X (tgt := 1433) dL_law_892 (by decide) (fun c => ?_) (fun c => ?_)
        · have h := ht c
          refine V_sub X (ls1 := [(0, .ref b), (1, .ref (ad 0)), (2, .ref (ad 150)), (3, .int l3)]) [0, 1, 2, 3] rfl ?_
          exact v_law_b1433 X hr hZ hX hbl ih _ _ _ _ h
        · have h := hf c
          refine V_iconst X (v := (0 : Int32)) dL_law_895 (by decide) ?_
          exact h.elim
      have h := h c22
      obtain ⟨ht, h⟩ := h
      by_cases c23 : ((xs (ix l3)) &&& (63 : Int32)) = (23 : Int32)
      · have h := ht c23
        refine V_tableIn X (tgt := 897) dL_law_33 (by rw [c23]; decide) (by rw [c23]; decide) (off := 864) (by rw [c23]; decide) (by decide) ?_
        refine V_aload_n X (i := 1) 1 dL_law_897 rfl rfl ?_
        refine V_aload_n X (i := 0) 0 dL_law_898 rfl rfl ?_
        refine V_iload_n X (i := 3) 3 dL_law_899 rfl rfl ?_
        refine V_iconst X (v := (1 : Int32)) dL_law_900 (by decide) ?_
        refine V_iadd X dL_law_901 ?_
        obtain ⟨g183, h⟩ := h
        refine V_sld X hX hbl g183 dL_law_902 ?_
        refine V_aload_n X (i := 0) 0 dL_law_903 rfl rfl ?_
        refine V_iload_n X (i := 3) 3 dL_law_904 rfl rfl ?_
        refine V_iconst X (v := (2 : Int32)) dL_law_905 (by decide) ?_
        refine V_iadd X dL_law_906 ?_
        obtain ⟨g184, h⟩ := h
        refine V_sld X hX hbl g184 dL_law_907 ?_
        refine K_11_crown X (Or.inl q_1029) h ⟨Nat.le_of_ble_eq_true rfl, Nat.le_of_ble_eq_true rfl⟩ ⟨Nat.le_of_ble_eq_true rfl, Nat.le_of_ble_eq_true rfl⟩ (st1 := []) (Nat.le_of_ble_eq_true rfl) dL_law_908 (fun r186 w185 h => ?_)
        refine V_aload_n X (i := 2) 2 dL_law_911 rfl rfl ?_
        refine V_aload_n X (i := 0) 0 dL_law_912 rfl rfl ?_
        refine V_iload_n X (i := 3) 3 dL_law_913 rfl rfl ?_
        refine V_iconst X (v := (1 : Int32)) dL_law_914 (by decide) ?_
        refine V_iadd X dL_law_915 ?_
        obtain ⟨g187, h⟩ := h
        refine V_sld X hX hbl g187 dL_law_916 ?_
        refine V_aload_n X (i := 0) 0 dL_law_917 rfl rfl ?_
        refine V_iload_n X (i := 3) 3 dL_law_918 rfl rfl ?_
        refine V_iconst X (v := (2 : Int32)) dL_law_919 (by decide) ?_
        refine V_iadd X dL_law_920 ?_
        obtain ⟨g188, h⟩ := h
        refine V_sld X hX hbl g188 dL_law_921 ?_
        refine K_12_crown X (Or.inl q_1740) hZ h ⟨Nat.le_of_ble_eq_true rfl, Nat.le_of_ble_eq_true rfl⟩ ⟨Nat.le_of_ble_eq_true rfl, Nat.le_of_ble_eq_true rfl⟩ (st1 := [.int r186]) (Nat.le_of_ble_eq_true rfl) dL_law_922 (fun r190 w189 v191 h => ?_)
        obtain ⟨ht, hf⟩ := h
        refine V_icmp_eq X (tgt := 1433) dL_law_925 (by decide) (fun c => ?_) (fun c => ?_)
        · have h := ht c
          refine V_sub X (ls1 := [(0, .ref b), (1, .ref (ad 0)), (2, .ref (ad 150)), (3, .int l3)]) [0, 1, 2, 3] rfl ?_
          exact v_law_b1433 X hr hZ hX hbl ih _ _ _ _ h
        · have h := hf c
          refine V_iconst X (v := (0 : Int32)) dL_law_928 (by decide) ?_
          exact h.elim
      have h := h c23
      obtain ⟨ht, h⟩ := h
      by_cases c24 : ((xs (ix l3)) &&& (63 : Int32)) = (24 : Int32)
      · have h := ht c24
        refine V_tableIn X (tgt := 930) dL_law_33 (by rw [c24]; decide) (by rw [c24]; decide) (off := 897) (by rw [c24]; decide) (by decide) ?_
        refine V_aload_n X (i := 1) 1 dL_law_930 rfl rfl ?_
        refine V_aload_n X (i := 0) 0 dL_law_931 rfl rfl ?_
        refine V_iload_n X (i := 3) 3 dL_law_932 rfl rfl ?_
        refine V_iconst X (v := (1 : Int32)) dL_law_933 (by decide) ?_
        refine V_iadd X dL_law_934 ?_
        obtain ⟨g192, h⟩ := h
        refine V_sld X hX hbl g192 dL_law_935 ?_
        refine V_aload_n X (i := 0) 0 dL_law_936 rfl rfl ?_
        refine V_iload_n X (i := 3) 3 dL_law_937 rfl rfl ?_
        refine V_iconst X (v := (2 : Int32)) dL_law_938 (by decide) ?_
        refine V_iadd X dL_law_939 ?_
        obtain ⟨g193, h⟩ := h
        refine V_sld X hX hbl g193 dL_law_940 ?_
        refine K_11_without X (Or.inl q_1037) h ⟨Nat.le_of_ble_eq_true rfl, Nat.le_of_ble_eq_true rfl⟩ ⟨Nat.le_of_ble_eq_true rfl, Nat.le_of_ble_eq_true rfl⟩ (st1 := []) (Nat.le_of_ble_eq_true rfl) dL_law_941 (fun r195 w194 h => ?_)
        refine V_aload_n X (i := 2) 2 dL_law_944 rfl rfl ?_
        refine V_aload_n X (i := 0) 0 dL_law_945 rfl rfl ?_
        refine V_iload_n X (i := 3) 3 dL_law_946 rfl rfl ?_
        refine V_iconst X (v := (1 : Int32)) dL_law_947 (by decide) ?_
        refine V_iadd X dL_law_948 ?_
        obtain ⟨g196, h⟩ := h
        refine V_sld X hX hbl g196 dL_law_949 ?_
        refine V_aload_n X (i := 0) 0 dL_law_950 rfl rfl ?_
        refine V_iload_n X (i := 3) 3 dL_law_951 rfl rfl ?_
        refine V_iconst X (v := (2 : Int32)) dL_law_952 (by decide) ?_
        refine V_iadd X dL_law_953 ?_
        obtain ⟨g197, h⟩ := h
        refine V_sld X hX hbl g197 dL_law_954 ?_
        refine K_12_without X (Or.inl q_1752) hZ h ⟨Nat.le_of_ble_eq_true rfl, Nat.le_of_ble_eq_true rfl⟩ ⟨Nat.le_of_ble_eq_true rfl, Nat.le_of_ble_eq_true rfl⟩ (st1 := [.int r195]) (Nat.le_of_ble_eq_true rfl) dL_law_955 (fun r199 w198 v200 h => ?_)
        obtain ⟨ht, hf⟩ := h
        refine V_icmp_eq X (tgt := 1433) dL_law_958 (by decide) (fun c => ?_) (fun c => ?_)
        · have h := ht c
          refine V_sub X (ls1 := [(0, .ref b), (1, .ref (ad 0)), (2, .ref (ad 150)), (3, .int l3)]) [0, 1, 2, 3] rfl ?_
          exact v_law_b1433 X hr hZ hX hbl ih _ _ _ _ h
        · have h := hf c
          refine V_iconst X (v := (0 : Int32)) dL_law_961 (by decide) ?_
          exact h.elim
      have h := h c24
      obtain ⟨ht, h⟩ := h
      by_cases c25 : ((xs (ix l3)) &&& (63 : Int32)) = (25 : Int32)
      · have h := ht c25
        refine V_tableIn X (tgt := 963) dL_law_33 (by rw [c25]; decide) (by rw [c25]; decide) (off := 930) (by rw [c25]; decide) (by decide) ?_
        refine V_aload_n X (i := 1) 1 dL_law_963 rfl rfl ?_
        refine V_aload_n X (i := 0) 0 dL_law_964 rfl rfl ?_
        refine V_iload_n X (i := 3) 3 dL_law_965 rfl rfl ?_
        refine V_iconst X (v := (1 : Int32)) dL_law_966 (by decide) ?_
        refine V_iadd X dL_law_967 ?_
        obtain ⟨g201, h⟩ := h
        refine V_sld X hX hbl g201 dL_law_968 ?_
        refine K_11_needs X (Or.inl q_1053) h ⟨Nat.le_of_ble_eq_true rfl, Nat.le_of_ble_eq_true rfl⟩ ⟨Nat.le_of_ble_eq_true rfl, Nat.le_of_ble_eq_true rfl⟩ (st1 := []) (Nat.le_of_ble_eq_true rfl) dL_law_969 (fun r203 w202 h => ?_)
        refine V_aload_n X (i := 2) 2 dL_law_972 rfl rfl ?_
        refine V_aload_n X (i := 0) 0 dL_law_973 rfl rfl ?_
        refine V_iload_n X (i := 3) 3 dL_law_974 rfl rfl ?_
        refine V_iconst X (v := (1 : Int32)) dL_law_975 (by decide) ?_
        refine V_iadd X dL_law_976 ?_
        obtain ⟨g204, h⟩ := h
        refine V_sld X hX hbl g204 dL_law_977 ?_
        refine K_12_needs X (Or.inl q_1760) hZ h ⟨Nat.le_of_ble_eq_true rfl, Nat.le_of_ble_eq_true rfl⟩ ⟨Nat.le_of_ble_eq_true rfl, Nat.le_of_ble_eq_true rfl⟩ (st1 := [.int r203]) (Nat.le_of_ble_eq_true rfl) dL_law_978 (fun r206 w205 v207 h => ?_)
        obtain ⟨ht, hf⟩ := h
        refine V_icmp_eq X (tgt := 1433) dL_law_981 (by decide) (fun c => ?_) (fun c => ?_)
        · have h := ht c
          refine V_sub X (ls1 := [(0, .ref b), (1, .ref (ad 0)), (2, .ref (ad 150)), (3, .int l3)]) [0, 1, 2, 3] rfl ?_
          exact v_law_b1433 X hr hZ hX hbl ih _ _ _ _ h
        · have h := hf c
          refine V_iconst X (v := (0 : Int32)) dL_law_984 (by decide) ?_
          exact h.elim
      have h := h c25
      obtain ⟨ht, h⟩ := h
      by_cases c26 : ((xs (ix l3)) &&& (63 : Int32)) = (26 : Int32)
      · have h := ht c26
        refine V_tableIn X (tgt := 986) dL_law_33 (by rw [c26]; decide) (by rw [c26]; decide) (off := 953) (by rw [c26]; decide) (by decide) ?_
        refine V_aload_n X (i := 1) 1 dL_law_986 rfl rfl ?_
        refine V_aload_n X (i := 0) 0 dL_law_987 rfl rfl ?_
        refine V_iload_n X (i := 3) 3 dL_law_988 rfl rfl ?_
        refine V_iconst X (v := (1 : Int32)) dL_law_989 (by decide) ?_
        refine V_iadd X dL_law_990 ?_
        obtain ⟨g208, h⟩ := h
        refine V_sld X hX hbl g208 dL_law_991 ?_
        refine K_11_spread X (Or.inl q_1071) h ⟨Nat.le_of_ble_eq_true rfl, Nat.le_of_ble_eq_true rfl⟩ ⟨Nat.le_of_ble_eq_true rfl, Nat.le_of_ble_eq_true rfl⟩ (st1 := []) (Nat.le_of_ble_eq_true rfl) dL_law_992 (fun r210 w209 h => ?_)
        refine V_aload_n X (i := 2) 2 dL_law_995 rfl rfl ?_
        refine V_aload_n X (i := 0) 0 dL_law_996 rfl rfl ?_
        refine V_iload_n X (i := 3) 3 dL_law_997 rfl rfl ?_
        refine V_iconst X (v := (1 : Int32)) dL_law_998 (by decide) ?_
        refine V_iadd X dL_law_999 ?_
        obtain ⟨g211, h⟩ := h
        refine V_sld X hX hbl g211 dL_law_1000 ?_
        refine K_12_spread X (Or.inl q_1768) hZ h ⟨Nat.le_of_ble_eq_true rfl, Nat.le_of_ble_eq_true rfl⟩ ⟨Nat.le_of_ble_eq_true rfl, Nat.le_of_ble_eq_true rfl⟩ (st1 := [.int r210]) (Nat.le_of_ble_eq_true rfl) dL_law_1001 (fun r213 w212 v214 h => ?_)
        obtain ⟨ht, hf⟩ := h
        refine V_icmp_eq X (tgt := 1433) dL_law_1004 (by decide) (fun c => ?_) (fun c => ?_)
        · have h := ht c
          refine V_sub X (ls1 := [(0, .ref b), (1, .ref (ad 0)), (2, .ref (ad 150)), (3, .int l3)]) [0, 1, 2, 3] rfl ?_
          exact v_law_b1433 X hr hZ hX hbl ih _ _ _ _ h
        · have h := hf c
          refine V_iconst X (v := (0 : Int32)) dL_law_1007 (by decide) ?_
          exact h.elim
      have h := h c26
      obtain ⟨ht, h⟩ := h
      by_cases c27 : ((xs (ix l3)) &&& (63 : Int32)) = (27 : Int32)
      · have h := ht c27
        refine V_tableIn X (tgt := 1009) dL_law_33 (by rw [c27]; decide) (by rw [c27]; decide) (off := 976) (by rw [c27]; decide) (by decide) ?_
        refine V_aload_n X (i := 1) 1 dL_law_1009 rfl rfl ?_
        refine V_aload_n X (i := 0) 0 dL_law_1010 rfl rfl ?_
        refine V_iload_n X (i := 3) 3 dL_law_1011 rfl rfl ?_
        refine V_iconst X (v := (1 : Int32)) dL_law_1012 (by decide) ?_
        refine V_iadd X dL_law_1013 ?_
        obtain ⟨g215, h⟩ := h
        refine V_sld X hX hbl g215 dL_law_1014 ?_
        refine V_aload_n X (i := 0) 0 dL_law_1015 rfl rfl ?_
        refine V_iload_n X (i := 3) 3 dL_law_1016 rfl rfl ?_
        refine V_iconst X (v := (2 : Int32)) dL_law_1017 (by decide) ?_
        refine V_iadd X dL_law_1018 ?_
        obtain ⟨g216, h⟩ := h
        refine V_sld X hX hbl g216 dL_law_1019 ?_
        refine V_aload_n X (i := 0) 0 dL_law_1020 rfl rfl ?_
        refine V_iload_n X (i := 3) 3 dL_law_1021 rfl rfl ?_
        refine V_iconst X (v := (3 : Int32)) dL_law_1022 (by decide) ?_
        refine V_iadd X dL_law_1023 ?_
        obtain ⟨g217, h⟩ := h
        refine V_sld X hX hbl g217 dL_law_1024 ?_
        obtain ⟨ht, hf⟩ := h
        refine V_if_eq X (tgt := 1032) dL_law_1025 (by decide) (fun c => ?_) (fun c => ?_)
        · have h := ht c
          refine V_iconst X (v := (0 : Int32)) dL_law_1032 (by decide) ?_
          refine V_sub X (ls1 := [(0, .ref b), (1, .ref (ad 0)), (2, .ref (ad 150)), (3, .int l3)]) [0, 1, 2, 3] rfl ?_
          exact v_law_b1033 X hr hZ hX hbl ih _ _ _ _ _ _ _ h
        · have h := hf c
          refine V_iconst X (v := (1 : Int32)) dL_law_1028 (by decide) ?_
          refine V_goto X (tgt := 1033) dL_law_1029 (by decide) ?_
          refine V_sub X (ls1 := [(0, .ref b), (1, .ref (ad 0)), (2, .ref (ad 150)), (3, .int l3)]) [0, 1, 2, 3] rfl ?_
          exact v_law_b1033 X hr hZ hX hbl ih _ _ _ _ _ _ _ h
      have h := h c27
      obtain ⟨ht, h⟩ := h
      by_cases c28 : ((xs (ix l3)) &&& (63 : Int32)) = (28 : Int32)
      · have h := ht c28
        refine V_tableIn X (tgt := 1068) dL_law_33 (by rw [c28]; decide) (by rw [c28]; decide) (off := 1035) (by rw [c28]; decide) (by decide) ?_
        refine V_aload_n X (i := 1) 1 dL_law_1068 rfl rfl ?_
        refine V_aload_n X (i := 0) 0 dL_law_1069 rfl rfl ?_
        refine V_iload_n X (i := 3) 3 dL_law_1070 rfl rfl ?_
        refine V_iconst X (v := (1 : Int32)) dL_law_1071 (by decide) ?_
        refine V_iadd X dL_law_1072 ?_
        obtain ⟨g218, h⟩ := h
        refine V_sld X hX hbl g218 dL_law_1073 ?_
        refine K_11_lead X (Or.inl q_1079) h ⟨Nat.le_of_ble_eq_true rfl, Nat.le_of_ble_eq_true rfl⟩ ⟨Nat.le_of_ble_eq_true rfl, Nat.le_of_ble_eq_true rfl⟩ (st1 := []) (Nat.le_of_ble_eq_true rfl) dL_law_1074 (fun r220 w219 h => ?_)
        refine V_aload_n X (i := 2) 2 dL_law_1077 rfl rfl ?_
        refine V_aload_n X (i := 0) 0 dL_law_1078 rfl rfl ?_
        refine V_iload_n X (i := 3) 3 dL_law_1079 rfl rfl ?_
        refine V_iconst X (v := (1 : Int32)) dL_law_1080 (by decide) ?_
        refine V_iadd X dL_law_1081 ?_
        obtain ⟨g221, h⟩ := h
        refine V_sld X hX hbl g221 dL_law_1082 ?_
        refine K_12_lead X (Or.inl q_1776) hZ h ⟨Nat.le_of_ble_eq_true rfl, Nat.le_of_ble_eq_true rfl⟩ ⟨Nat.le_of_ble_eq_true rfl, Nat.le_of_ble_eq_true rfl⟩ (st1 := [.int r220]) (Nat.le_of_ble_eq_true rfl) dL_law_1083 (fun r223 w222 v224 h => ?_)
        obtain ⟨ht, hf⟩ := h
        refine V_icmp_eq X (tgt := 1433) dL_law_1086 (by decide) (fun c => ?_) (fun c => ?_)
        · have h := ht c
          refine V_sub X (ls1 := [(0, .ref b), (1, .ref (ad 0)), (2, .ref (ad 150)), (3, .int l3)]) [0, 1, 2, 3] rfl ?_
          exact v_law_b1433 X hr hZ hX hbl ih _ _ _ _ h
        · have h := hf c
          refine V_iconst X (v := (0 : Int32)) dL_law_1089 (by decide) ?_
          exact h.elim
      have h := h c28
      obtain ⟨ht, h⟩ := h
      by_cases c29 : ((xs (ix l3)) &&& (63 : Int32)) = (29 : Int32)
      · have h := ht c29
        refine V_tableIn X (tgt := 1091) dL_law_33 (by rw [c29]; decide) (by rw [c29]; decide) (off := 1058) (by rw [c29]; decide) (by decide) ?_
        refine V_aload_n X (i := 1) 1 dL_law_1091 rfl rfl ?_
        refine V_aload_n X (i := 0) 0 dL_law_1092 rfl rfl ?_
        refine V_iload_n X (i := 3) 3 dL_law_1093 rfl rfl ?_
        refine V_iconst X (v := (1 : Int32)) dL_law_1094 (by decide) ?_
        refine V_iadd X dL_law_1095 ?_
        obtain ⟨g225, h⟩ := h
        refine V_sld X hX hbl g225 dL_law_1096 ?_
        refine K_11_reversed X (Or.inl q_1087) h ⟨Nat.le_of_ble_eq_true rfl, Nat.le_of_ble_eq_true rfl⟩ ⟨Nat.le_of_ble_eq_true rfl, Nat.le_of_ble_eq_true rfl⟩ (st1 := []) (Nat.le_of_ble_eq_true rfl) dL_law_1097 (fun r227 w226 h => ?_)
        refine V_aload_n X (i := 2) 2 dL_law_1100 rfl rfl ?_
        refine V_aload_n X (i := 0) 0 dL_law_1101 rfl rfl ?_
        refine V_iload_n X (i := 3) 3 dL_law_1102 rfl rfl ?_
        refine V_iconst X (v := (1 : Int32)) dL_law_1103 (by decide) ?_
        refine V_iadd X dL_law_1104 ?_
        obtain ⟨g228, h⟩ := h
        refine V_sld X hX hbl g228 dL_law_1105 ?_
        refine K_12_reversed X (Or.inl q_1748) hZ h ⟨Nat.le_of_ble_eq_true rfl, Nat.le_of_ble_eq_true rfl⟩ ⟨Nat.le_of_ble_eq_true rfl, Nat.le_of_ble_eq_true rfl⟩ (st1 := [.int r227]) (Nat.le_of_ble_eq_true rfl) dL_law_1106 (fun r230 w229 v231 h => ?_)
        obtain ⟨ht, hf⟩ := h
        refine V_icmp_eq X (tgt := 1433) dL_law_1109 (by decide) (fun c => ?_) (fun c => ?_)
        · have h := ht c
          refine V_sub X (ls1 := [(0, .ref b), (1, .ref (ad 0)), (2, .ref (ad 150)), (3, .int l3)]) [0, 1, 2, 3] rfl ?_
          exact v_law_b1433 X hr hZ hX hbl ih _ _ _ _ h
        · have h := hf c
          refine V_iconst X (v := (0 : Int32)) dL_law_1112 (by decide) ?_
          exact h.elim
      have h := h c29
      obtain ⟨ht, h⟩ := h
      by_cases c30 : ((xs (ix l3)) &&& (63 : Int32)) = (30 : Int32)
      · have h := ht c30
        refine V_tableIn X (tgt := 1114) dL_law_33 (by rw [c30]; decide) (by rw [c30]; decide) (off := 1081) (by rw [c30]; decide) (by decide) ?_
        refine V_aload_n X (i := 1) 1 dL_law_1114 rfl rfl ?_
        refine V_aload_n X (i := 0) 0 dL_law_1115 rfl rfl ?_
        refine V_iload_n X (i := 3) 3 dL_law_1116 rfl rfl ?_
        refine V_iconst X (v := (1 : Int32)) dL_law_1117 (by decide) ?_
        refine V_iadd X dL_law_1118 ?_
        obtain ⟨g232, h⟩ := h
        refine V_sld X hX hbl g232 dL_law_1119 ?_
        obtain ⟨ht, hf⟩ := h
        refine V_if_eq X (tgt := 1127) dL_law_1120 (by decide) (fun c => ?_) (fun c => ?_)
        · have h := ht c
          refine V_iconst X (v := (0 : Int32)) dL_law_1127 (by decide) ?_
          refine V_sub X (ls1 := [(0, .ref b), (1, .ref (ad 0)), (2, .ref (ad 150)), (3, .int l3)]) [0, 1, 2, 3] rfl ?_
          exact v_law_b1128 X hr hZ hX hbl ih _ _ _ _ _ h
        · have h := hf c
          refine V_iconst X (v := (1 : Int32)) dL_law_1123 (by decide) ?_
          refine V_goto X (tgt := 1128) dL_law_1124 (by decide) ?_
          refine V_sub X (ls1 := [(0, .ref b), (1, .ref (ad 0)), (2, .ref (ad 150)), (3, .int l3)]) [0, 1, 2, 3] rfl ?_
          exact v_law_b1128 X hr hZ hX hbl ih _ _ _ _ _ h
      have h := h c30
      obtain ⟨ht, h⟩ := h
      by_cases c31 : ((xs (ix l3)) &&& (63 : Int32)) = (31 : Int32)
      · have h := ht c31
        refine V_tableIn X (tgt := 1163) dL_law_33 (by rw [c31]; decide) (by rw [c31]; decide) (off := 1130) (by rw [c31]; decide) (by decide) ?_
        refine V_aload_n X (i := 1) 1 dL_law_1163 rfl rfl ?_
        refine V_aload_n X (i := 0) 0 dL_law_1164 rfl rfl ?_
        refine V_iload_n X (i := 3) 3 dL_law_1165 rfl rfl ?_
        refine V_iconst X (v := (1 : Int32)) dL_law_1166 (by decide) ?_
        refine V_iadd X dL_law_1167 ?_
        obtain ⟨g233, h⟩ := h
        refine V_sld X hX hbl g233 dL_law_1168 ?_
        refine V_aload_n X (i := 0) 0 dL_law_1169 rfl rfl ?_
        refine V_iload_n X (i := 3) 3 dL_law_1170 rfl rfl ?_
        refine V_iconst X (v := (2 : Int32)) dL_law_1171 (by decide) ?_
        refine V_iadd X dL_law_1172 ?_
        obtain ⟨g234, h⟩ := h
        refine V_sld X hX hbl g234 dL_law_1173 ?_
        refine K_11_calm X (Or.inl q_1104) h ⟨Nat.le_of_ble_eq_true rfl, Nat.le_of_ble_eq_true rfl⟩ ⟨Nat.le_of_ble_eq_true rfl, Nat.le_of_ble_eq_true rfl⟩ (st1 := []) (Nat.le_of_ble_eq_true rfl) dL_law_1174 (fun r236 w235 h => ?_)
        refine V_aload_n X (i := 2) 2 dL_law_1177 rfl rfl ?_
        refine V_aload_n X (i := 0) 0 dL_law_1178 rfl rfl ?_
        refine V_iload_n X (i := 3) 3 dL_law_1179 rfl rfl ?_
        refine V_iconst X (v := (1 : Int32)) dL_law_1180 (by decide) ?_
        refine V_iadd X dL_law_1181 ?_
        obtain ⟨g237, h⟩ := h
        refine V_sld X hX hbl g237 dL_law_1182 ?_
        refine V_aload_n X (i := 0) 0 dL_law_1183 rfl rfl ?_
        refine V_iload_n X (i := 3) 3 dL_law_1184 rfl rfl ?_
        refine V_iconst X (v := (2 : Int32)) dL_law_1185 (by decide) ?_
        refine V_iadd X dL_law_1186 ?_
        obtain ⟨g238, h⟩ := h
        refine V_sld X hX hbl g238 dL_law_1187 ?_
        refine K_12_calm X (Or.inl q_1788) hZ h ⟨Nat.le_of_ble_eq_true rfl, Nat.le_of_ble_eq_true rfl⟩ ⟨Nat.le_of_ble_eq_true rfl, Nat.le_of_ble_eq_true rfl⟩ (st1 := [.int r236]) (Nat.le_of_ble_eq_true rfl) dL_law_1188 (fun r240 w239 v241 h => ?_)
        obtain ⟨ht, hf⟩ := h
        refine V_icmp_eq X (tgt := 1433) dL_law_1191 (by decide) (fun c => ?_) (fun c => ?_)
        · have h := ht c
          refine V_sub X (ls1 := [(0, .ref b), (1, .ref (ad 0)), (2, .ref (ad 150)), (3, .int l3)]) [0, 1, 2, 3] rfl ?_
          exact v_law_b1433 X hr hZ hX hbl ih _ _ _ _ h
        · have h := hf c
          refine V_iconst X (v := (0 : Int32)) dL_law_1194 (by decide) ?_
          exact h.elim
      have h := h c31
      obtain ⟨ht, h⟩ := h
      by_cases c32 : ((xs (ix l3)) &&& (63 : Int32)) = (32 : Int32)
      · have h := ht c32
        refine V_tableIn X (tgt := 1196) dL_law_33 (by rw [c32]; decide) (by rw [c32]; decide) (off := 1163) (by rw [c32]; decide) (by decide) ?_
        refine V_aload_n X (i := 1) 1 dL_law_1196 rfl rfl ?_
        refine V_aload_n X (i := 0) 0 dL_law_1197 rfl rfl ?_
        refine V_iload_n X (i := 3) 3 dL_law_1198 rfl rfl ?_
        refine V_iconst X (v := (1 : Int32)) dL_law_1199 (by decide) ?_
        refine V_iadd X dL_law_1200 ?_
        obtain ⟨g242, h⟩ := h
        refine V_sld X hX hbl g242 dL_law_1201 ?_
        refine K_11_windiest X (Or.inl q_1111) h ⟨Nat.le_of_ble_eq_true rfl, Nat.le_of_ble_eq_true rfl⟩ ⟨Nat.le_of_ble_eq_true rfl, Nat.le_of_ble_eq_true rfl⟩ (st1 := []) (Nat.le_of_ble_eq_true rfl) dL_law_1202 (fun r244 w243 h => ?_)
        refine V_aload_n X (i := 2) 2 dL_law_1205 rfl rfl ?_
        refine V_aload_n X (i := 0) 0 dL_law_1206 rfl rfl ?_
        refine V_iload_n X (i := 3) 3 dL_law_1207 rfl rfl ?_
        refine V_iconst X (v := (1 : Int32)) dL_law_1208 (by decide) ?_
        refine V_iadd X dL_law_1209 ?_
        obtain ⟨g245, h⟩ := h
        refine V_sld X hX hbl g245 dL_law_1210 ?_
        refine K_12_windiest X (Or.inl q_1795) hZ h ⟨Nat.le_of_ble_eq_true rfl, Nat.le_of_ble_eq_true rfl⟩ ⟨Nat.le_of_ble_eq_true rfl, Nat.le_of_ble_eq_true rfl⟩ (st1 := [.int r244]) (Nat.le_of_ble_eq_true rfl) dL_law_1211 (fun r247 w246 v248 h => ?_)
        obtain ⟨ht, hf⟩ := h
        refine V_icmp_eq X (tgt := 1433) dL_law_1214 (by decide) (fun c => ?_) (fun c => ?_)
        · have h := ht c
          refine V_sub X (ls1 := [(0, .ref b), (1, .ref (ad 0)), (2, .ref (ad 150)), (3, .int l3)]) [0, 1, 2, 3] rfl ?_
          exact v_law_b1433 X hr hZ hX hbl ih _ _ _ _ h
        · have h := hf c
          refine V_iconst X (v := (0 : Int32)) dL_law_1217 (by decide) ?_
          exact h.elim
      have h := h c32
      obtain ⟨ht, h⟩ := h
      by_cases c33 : ((xs (ix l3)) &&& (63 : Int32)) = (33 : Int32)
      · have h := ht c33
        refine V_tableIn X (tgt := 1219) dL_law_33 (by rw [c33]; decide) (by rw [c33]; decide) (off := 1186) (by rw [c33]; decide) (by decide) ?_
        refine V_aload_n X (i := 1) 1 dL_law_1219 rfl rfl ?_
        refine V_aload_n X (i := 0) 0 dL_law_1220 rfl rfl ?_
        refine V_iload_n X (i := 3) 3 dL_law_1221 rfl rfl ?_
        refine V_iconst X (v := (1 : Int32)) dL_law_1222 (by decide) ?_
        refine V_iadd X dL_law_1223 ?_
        obtain ⟨g249, h⟩ := h
        refine V_sld X hX hbl g249 dL_law_1224 ?_
        refine K_11_progress X (Or.inl q_1115) h ⟨Nat.le_of_ble_eq_true rfl, Nat.le_of_ble_eq_true rfl⟩ ⟨Nat.le_of_ble_eq_true rfl, Nat.le_of_ble_eq_true rfl⟩ (st1 := []) (Nat.le_of_ble_eq_true rfl) dL_law_1225 (fun r251 w250 h => ?_)
        refine V_aload_n X (i := 2) 2 dL_law_1228 rfl rfl ?_
        refine V_aload_n X (i := 0) 0 dL_law_1229 rfl rfl ?_
        refine V_iload_n X (i := 3) 3 dL_law_1230 rfl rfl ?_
        refine V_iconst X (v := (1 : Int32)) dL_law_1231 (by decide) ?_
        refine V_iadd X dL_law_1232 ?_
        obtain ⟨g252, h⟩ := h
        refine V_sld X hX hbl g252 dL_law_1233 ?_
        refine K_12_progress X (Or.inl q_1799) hZ h ⟨Nat.le_of_ble_eq_true rfl, Nat.le_of_ble_eq_true rfl⟩ ⟨Nat.le_of_ble_eq_true rfl, Nat.le_of_ble_eq_true rfl⟩ (st1 := [.int r251]) (Nat.le_of_ble_eq_true rfl) dL_law_1234 (fun r254 w253 v255 h => ?_)
        obtain ⟨ht, hf⟩ := h
        refine V_icmp_eq X (tgt := 1433) dL_law_1237 (by decide) (fun c => ?_) (fun c => ?_)
        · have h := ht c
          refine V_sub X (ls1 := [(0, .ref b), (1, .ref (ad 0)), (2, .ref (ad 150)), (3, .int l3)]) [0, 1, 2, 3] rfl ?_
          exact v_law_b1433 X hr hZ hX hbl ih _ _ _ _ h
        · have h := hf c
          refine V_iconst X (v := (0 : Int32)) dL_law_1240 (by decide) ?_
          exact h.elim
      have h := h c33
      obtain ⟨ht, h⟩ := h
      by_cases c34 : ((xs (ix l3)) &&& (63 : Int32)) = (34 : Int32)
      · have h := ht c34
        refine V_tableIn X (tgt := 1242) dL_law_33 (by rw [c34]; decide) (by rw [c34]; decide) (off := 1209) (by rw [c34]; decide) (by decide) ?_
        refine V_aload_n X (i := 1) 1 dL_law_1242 rfl rfl ?_
        refine V_aload_n X (i := 0) 0 dL_law_1243 rfl rfl ?_
        refine V_iload_n X (i := 3) 3 dL_law_1244 rfl rfl ?_
        refine V_iconst X (v := (1 : Int32)) dL_law_1245 (by decide) ?_
        refine V_iadd X dL_law_1246 ?_
        obtain ⟨g256, h⟩ := h
        refine V_sld X hX hbl g256 dL_law_1247 ?_
        refine K_11_himself X (Or.inl q_1119) h ⟨Nat.le_of_ble_eq_true rfl, Nat.le_of_ble_eq_true rfl⟩ ⟨Nat.le_of_ble_eq_true rfl, Nat.le_of_ble_eq_true rfl⟩ (st1 := []) (Nat.le_of_ble_eq_true rfl) dL_law_1248 (fun r258 w257 h => ?_)
        refine V_aload_n X (i := 2) 2 dL_law_1251 rfl rfl ?_
        refine V_aload_n X (i := 0) 0 dL_law_1252 rfl rfl ?_
        refine V_iload_n X (i := 3) 3 dL_law_1253 rfl rfl ?_
        refine V_iconst X (v := (1 : Int32)) dL_law_1254 (by decide) ?_
        refine V_iadd X dL_law_1255 ?_
        obtain ⟨g259, h⟩ := h
        refine V_sld X hX hbl g259 dL_law_1256 ?_
        refine K_12_himself X (Or.inl q_1803) hZ h ⟨Nat.le_of_ble_eq_true rfl, Nat.le_of_ble_eq_true rfl⟩ ⟨Nat.le_of_ble_eq_true rfl, Nat.le_of_ble_eq_true rfl⟩ (st1 := [.int r258]) (Nat.le_of_ble_eq_true rfl) dL_law_1257 (fun r261 w260 v262 h => ?_)
        obtain ⟨ht, hf⟩ := h
        refine V_icmp_eq X (tgt := 1433) dL_law_1260 (by decide) (fun c => ?_) (fun c => ?_)
        · have h := ht c
          refine V_sub X (ls1 := [(0, .ref b), (1, .ref (ad 0)), (2, .ref (ad 150)), (3, .int l3)]) [0, 1, 2, 3] rfl ?_
          exact v_law_b1433 X hr hZ hX hbl ih _ _ _ _ h
        · have h := hf c
          refine V_iconst X (v := (0 : Int32)) dL_law_1263 (by decide) ?_
          exact h.elim
      have h := h c34
      obtain ⟨ht, h⟩ := h
      by_cases c35 : ((xs (ix l3)) &&& (63 : Int32)) = (35 : Int32)
      · have h := ht c35
        refine V_tableIn X (tgt := 1265) dL_law_33 (by rw [c35]; decide) (by rw [c35]; decide) (off := 1232) (by rw [c35]; decide) (by decide) ?_
        refine V_aload_n X (i := 1) 1 dL_law_1265 rfl rfl ?_
        refine V_aload_n X (i := 0) 0 dL_law_1266 rfl rfl ?_
        refine V_iload_n X (i := 3) 3 dL_law_1267 rfl rfl ?_
        refine V_iconst X (v := (1 : Int32)) dL_law_1268 (by decide) ?_
        refine V_iadd X dL_law_1269 ?_
        obtain ⟨g263, h⟩ := h
        refine V_sld X hX hbl g263 dL_law_1270 ?_
        refine V_aload_n X (i := 0) 0 dL_law_1271 rfl rfl ?_
        refine V_iload_n X (i := 3) 3 dL_law_1272 rfl rfl ?_
        refine V_iconst X (v := (2 : Int32)) dL_law_1273 (by decide) ?_
        refine V_iadd X dL_law_1274 ?_
        obtain ⟨g264, h⟩ := h
        refine V_sld X hX hbl g264 dL_law_1275 ?_
        refine V_aload_n X (i := 0) 0 dL_law_1276 rfl rfl ?_
        refine V_iload_n X (i := 3) 3 dL_law_1277 rfl rfl ?_
        refine V_iconst X (v := (3 : Int32)) dL_law_1278 (by decide) ?_
        refine V_iadd X dL_law_1279 ?_
        obtain ⟨g265, h⟩ := h
        refine V_sld X hX hbl g265 dL_law_1280 ?_
        refine K_11_tell X (Or.inl q_1127) h ⟨Nat.le_of_ble_eq_true rfl, Nat.le_of_ble_eq_true rfl⟩ ⟨Nat.le_of_ble_eq_true rfl, Nat.le_of_ble_eq_true rfl⟩ (st1 := []) (Nat.le_of_ble_eq_true rfl) dL_law_1281 (fun r267 w266 h => ?_)
        refine V_aload_n X (i := 2) 2 dL_law_1284 rfl rfl ?_
        refine V_aload_n X (i := 0) 0 dL_law_1285 rfl rfl ?_
        refine V_iload_n X (i := 3) 3 dL_law_1286 rfl rfl ?_
        refine V_iconst X (v := (1 : Int32)) dL_law_1287 (by decide) ?_
        refine V_iadd X dL_law_1288 ?_
        obtain ⟨g268, h⟩ := h
        refine V_sld X hX hbl g268 dL_law_1289 ?_
        refine V_aload_n X (i := 0) 0 dL_law_1290 rfl rfl ?_
        refine V_iload_n X (i := 3) 3 dL_law_1291 rfl rfl ?_
        refine V_iconst X (v := (2 : Int32)) dL_law_1292 (by decide) ?_
        refine V_iadd X dL_law_1293 ?_
        obtain ⟨g269, h⟩ := h
        refine V_sld X hX hbl g269 dL_law_1294 ?_
        refine V_aload_n X (i := 0) 0 dL_law_1295 rfl rfl ?_
        refine V_iload_n X (i := 3) 3 dL_law_1296 rfl rfl ?_
        refine V_iconst X (v := (3 : Int32)) dL_law_1297 (by decide) ?_
        refine V_iadd X dL_law_1298 ?_
        obtain ⟨g270, h⟩ := h
        refine V_sld X hX hbl g270 dL_law_1299 ?_
        refine K_12_tell X (Or.inl q_1807) hZ h ⟨Nat.le_of_ble_eq_true rfl, Nat.le_of_ble_eq_true rfl⟩ ⟨Nat.le_of_ble_eq_true rfl, Nat.le_of_ble_eq_true rfl⟩ (st1 := [.int r267]) (Nat.le_of_ble_eq_true rfl) dL_law_1300 (fun r272 w271 v273 h => ?_)
        obtain ⟨ht, hf⟩ := h
        refine V_icmp_eq X (tgt := 1433) dL_law_1303 (by decide) (fun c => ?_) (fun c => ?_)
        · have h := ht c
          refine V_sub X (ls1 := [(0, .ref b), (1, .ref (ad 0)), (2, .ref (ad 150)), (3, .int l3)]) [0, 1, 2, 3] rfl ?_
          exact v_law_b1433 X hr hZ hX hbl ih _ _ _ _ h
        · have h := hf c
          refine V_iconst X (v := (0 : Int32)) dL_law_1306 (by decide) ?_
          exact h.elim
      have h := h c35
      obtain ⟨ht, h⟩ := h
      by_cases c36 : ((xs (ix l3)) &&& (63 : Int32)) = (36 : Int32)
      · have h := ht c36
        refine V_tableIn X (tgt := 1308) dL_law_33 (by rw [c36]; decide) (by rw [c36]; decide) (off := 1275) (by rw [c36]; decide) (by decide) ?_
        refine V_aload_n X (i := 1) 1 dL_law_1308 rfl rfl ?_
        refine K_11_forget X (Or.inl q_1135) h ⟨Nat.le_of_ble_eq_true rfl, Nat.le_of_ble_eq_true rfl⟩ ⟨Nat.le_of_ble_eq_true rfl, Nat.le_of_ble_eq_true rfl⟩ (st1 := []) (Nat.le_of_ble_eq_true rfl) dL_law_1309 (fun r275 w274 h => ?_)
        refine V_aload_n X (i := 2) 2 dL_law_1312 rfl rfl ?_
        refine K_12_forget X (Or.inl q_1811) hZ h ⟨Nat.le_of_ble_eq_true rfl, Nat.le_of_ble_eq_true rfl⟩ ⟨Nat.le_of_ble_eq_true rfl, Nat.le_of_ble_eq_true rfl⟩ (st1 := [.int r275]) (Nat.le_of_ble_eq_true rfl) dL_law_1313 (fun r277 w276 v278 h => ?_)
        obtain ⟨ht, hf⟩ := h
        refine V_icmp_eq X (tgt := 1433) dL_law_1316 (by decide) (fun c => ?_) (fun c => ?_)
        · have h := ht c
          refine V_sub X (ls1 := [(0, .ref b), (1, .ref (ad 0)), (2, .ref (ad 150)), (3, .int l3)]) [0, 1, 2, 3] rfl ?_
          exact v_law_b1433 X hr hZ hX hbl ih _ _ _ _ h
        · have h := hf c
          refine V_iconst X (v := (0 : Int32)) dL_law_1319 (by decide) ?_
          exact h.elim
      have h := h c36
      obtain ⟨ht, h⟩ := h
      by_cases c37 : ((xs (ix l3)) &&& (63 : Int32)) = (37 : Int32)
      · have h := ht c37
        refine V_tableIn X (tgt := 1321) dL_law_33 (by rw [c37]; decide) (by rw [c37]; decide) (off := 1288) (by rw [c37]; decide) (by decide) ?_
        refine V_aload_n X (i := 1) 1 dL_law_1321 rfl rfl ?_
        refine V_aload_n X (i := 0) 0 dL_law_1322 rfl rfl ?_
        refine V_iload_n X (i := 3) 3 dL_law_1323 rfl rfl ?_
        refine V_iconst X (v := (1 : Int32)) dL_law_1324 (by decide) ?_
        refine V_iadd X dL_law_1325 ?_
        obtain ⟨g279, h⟩ := h
        refine V_sld X hX hbl g279 dL_law_1326 ?_
        refine V_aload_n X (i := 0) 0 dL_law_1327 rfl rfl ?_
        refine V_iload_n X (i := 3) 3 dL_law_1328 rfl rfl ?_
        refine V_iconst X (v := (2 : Int32)) dL_law_1329 (by decide) ?_
        refine V_iadd X dL_law_1330 ?_
        obtain ⟨g280, h⟩ := h
        refine V_sld X hX hbl g280 dL_law_1331 ?_
        refine V_aload_n X (i := 0) 0 dL_law_1332 rfl rfl ?_
        refine V_iload_n X (i := 3) 3 dL_law_1333 rfl rfl ?_
        refine V_iconst X (v := (3 : Int32)) dL_law_1334 (by decide) ?_
        refine V_iadd X dL_law_1335 ?_
        obtain ⟨g281, h⟩ := h
        refine V_sld X hX hbl g281 dL_law_1336 ?_
        refine K_11_slips X (Or.inl q_1139) h ⟨Nat.le_of_ble_eq_true rfl, Nat.le_of_ble_eq_true rfl⟩ ⟨Nat.le_of_ble_eq_true rfl, Nat.le_of_ble_eq_true rfl⟩ (st1 := []) (Nat.le_of_ble_eq_true rfl) dL_law_1337 (fun r283 w282 h => ?_)
        refine V_aload_n X (i := 2) 2 dL_law_1340 rfl rfl ?_
        refine V_aload_n X (i := 0) 0 dL_law_1341 rfl rfl ?_
        refine V_iload_n X (i := 3) 3 dL_law_1342 rfl rfl ?_
        refine V_iconst X (v := (1 : Int32)) dL_law_1343 (by decide) ?_
        refine V_iadd X dL_law_1344 ?_
        obtain ⟨g284, h⟩ := h
        refine V_sld X hX hbl g284 dL_law_1345 ?_
        refine V_aload_n X (i := 0) 0 dL_law_1346 rfl rfl ?_
        refine V_iload_n X (i := 3) 3 dL_law_1347 rfl rfl ?_
        refine V_iconst X (v := (2 : Int32)) dL_law_1348 (by decide) ?_
        refine V_iadd X dL_law_1349 ?_
        obtain ⟨g285, h⟩ := h
        refine V_sld X hX hbl g285 dL_law_1350 ?_
        refine V_aload_n X (i := 0) 0 dL_law_1351 rfl rfl ?_
        refine V_iload_n X (i := 3) 3 dL_law_1352 rfl rfl ?_
        refine V_iconst X (v := (3 : Int32)) dL_law_1353 (by decide) ?_
        refine V_iadd X dL_law_1354 ?_
        obtain ⟨g286, h⟩ := h
        refine V_sld X hX hbl g286 dL_law_1355 ?_
        refine K_12_slips X (Or.inl q_1815) hZ h ⟨Nat.le_of_ble_eq_true rfl, Nat.le_of_ble_eq_true rfl⟩ ⟨Nat.le_of_ble_eq_true rfl, Nat.le_of_ble_eq_true rfl⟩ (st1 := [.int r283]) (Nat.le_of_ble_eq_true rfl) dL_law_1356 (fun r288 w287 v289 h => ?_)
        obtain ⟨ht, hf⟩ := h
        refine V_icmp_eq X (tgt := 1433) dL_law_1359 (by decide) (fun c => ?_) (fun c => ?_)
        · have h := ht c
          refine V_sub X (ls1 := [(0, .ref b), (1, .ref (ad 0)), (2, .ref (ad 150)), (3, .int l3)]) [0, 1, 2, 3] rfl ?_
          exact v_law_b1433 X hr hZ hX hbl ih _ _ _ _ h
        · have h := hf c
          refine V_iconst X (v := (0 : Int32)) dL_law_1362 (by decide) ?_
          exact h.elim
      have h := h c37
      obtain ⟨ht, h⟩ := h
      by_cases c38 : ((xs (ix l3)) &&& (63 : Int32)) = (38 : Int32)
      · have h := ht c38
        refine V_tableIn X (tgt := 1364) dL_law_33 (by rw [c38]; decide) (by rw [c38]; decide) (off := 1331) (by rw [c38]; decide) (by decide) ?_
        refine V_aload_n X (i := 1) 1 dL_law_1364 rfl rfl ?_
        refine V_aload_n X (i := 0) 0 dL_law_1365 rfl rfl ?_
        refine V_iload_n X (i := 3) 3 dL_law_1366 rfl rfl ?_
        refine V_iconst X (v := (1 : Int32)) dL_law_1367 (by decide) ?_
        refine V_iadd X dL_law_1368 ?_
        obtain ⟨g290, h⟩ := h
        refine V_sld X hX hbl g290 dL_law_1369 ?_
        refine K_11_hold X (Or.inl q_1147) h ⟨Nat.le_of_ble_eq_true rfl, Nat.le_of_ble_eq_true rfl⟩ ⟨Nat.le_of_ble_eq_true rfl, Nat.le_of_ble_eq_true rfl⟩ (st1 := []) (Nat.le_of_ble_eq_true rfl) dL_law_1370 (fun r292 w291 h => ?_)
        refine V_aload_n X (i := 2) 2 dL_law_1373 rfl rfl ?_
        refine V_aload_n X (i := 0) 0 dL_law_1374 rfl rfl ?_
        refine V_iload_n X (i := 3) 3 dL_law_1375 rfl rfl ?_
        refine V_iconst X (v := (1 : Int32)) dL_law_1376 (by decide) ?_
        refine V_iadd X dL_law_1377 ?_
        obtain ⟨g293, h⟩ := h
        refine V_sld X hX hbl g293 dL_law_1378 ?_
        refine K_12_hold X (Or.inl q_1823) hZ h ⟨Nat.le_of_ble_eq_true rfl, Nat.le_of_ble_eq_true rfl⟩ ⟨Nat.le_of_ble_eq_true rfl, Nat.le_of_ble_eq_true rfl⟩ (st1 := [.int r292]) (Nat.le_of_ble_eq_true rfl) dL_law_1379 (fun r295 w294 v296 h => ?_)
        obtain ⟨ht, hf⟩ := h
        refine V_icmp_eq X (tgt := 1433) dL_law_1382 (by decide) (fun c => ?_) (fun c => ?_)
        · have h := ht c
          refine V_sub X (ls1 := [(0, .ref b), (1, .ref (ad 0)), (2, .ref (ad 150)), (3, .int l3)]) [0, 1, 2, 3] rfl ?_
          exact v_law_b1433 X hr hZ hX hbl ih _ _ _ _ h
        · have h := hf c
          refine V_iconst X (v := (0 : Int32)) dL_law_1385 (by decide) ?_
          exact h.elim
      have h := h c38
      obtain ⟨ht, h⟩ := h
      by_cases c39 : ((xs (ix l3)) &&& (63 : Int32)) = (39 : Int32)
      · have h := ht c39
        refine V_tableIn X (tgt := 1387) dL_law_33 (by rw [c39]; decide) (by rw [c39]; decide) (off := 1354) (by rw [c39]; decide) (by decide) ?_
        refine V_aload_n X (i := 1) 1 dL_law_1387 rfl rfl ?_
        refine V_aload_n X (i := 0) 0 dL_law_1388 rfl rfl ?_
        refine V_iload_n X (i := 3) 3 dL_law_1389 rfl rfl ?_
        refine V_iconst X (v := (1 : Int32)) dL_law_1390 (by decide) ?_
        refine V_iadd X dL_law_1391 ?_
        obtain ⟨g297, h⟩ := h
        refine V_sld X hX hbl g297 dL_law_1392 ?_
        refine K_11_restore X (Or.inl q_1157) h ⟨Nat.le_of_ble_eq_true rfl, Nat.le_of_ble_eq_true rfl⟩ ⟨Nat.le_of_ble_eq_true rfl, Nat.le_of_ble_eq_true rfl⟩ (st1 := []) (Nat.le_of_ble_eq_true rfl) dL_law_1393 (fun r299 w298 h => ?_)
        refine V_aload_n X (i := 2) 2 dL_law_1396 rfl rfl ?_
        refine V_aload_n X (i := 0) 0 dL_law_1397 rfl rfl ?_
        refine V_iload_n X (i := 3) 3 dL_law_1398 rfl rfl ?_
        refine V_iconst X (v := (1 : Int32)) dL_law_1399 (by decide) ?_
        refine V_iadd X dL_law_1400 ?_
        obtain ⟨g300, h⟩ := h
        refine V_sld X hX hbl g300 dL_law_1401 ?_
        refine K_12_restore X (Or.inl q_1827) hZ h ⟨Nat.le_of_ble_eq_true rfl, Nat.le_of_ble_eq_true rfl⟩ ⟨Nat.le_of_ble_eq_true rfl, Nat.le_of_ble_eq_true rfl⟩ (st1 := [.int r299]) (Nat.le_of_ble_eq_true rfl) dL_law_1402 (fun r302 w301 v303 h => ?_)
        obtain ⟨ht, hf⟩ := h
        refine V_icmp_eq X (tgt := 1433) dL_law_1405 (by decide) (fun c => ?_) (fun c => ?_)
        · have h := ht c
          refine V_sub X (ls1 := [(0, .ref b), (1, .ref (ad 0)), (2, .ref (ad 150)), (3, .int l3)]) [0, 1, 2, 3] rfl ?_
          exact v_law_b1433 X hr hZ hX hbl ih _ _ _ _ h
        · have h := hf c
          refine V_iconst X (v := (0 : Int32)) dL_law_1408 (by decide) ?_
          exact h.elim
      have h := h c39
      obtain ⟨ht, h⟩ := h
      by_cases c40 : ((xs (ix l3)) &&& (63 : Int32)) = (40 : Int32)
      · have h := ht c40
        refine V_tableIn X (tgt := 1410) dL_law_33 (by rw [c40]; decide) (by rw [c40]; decide) (off := 1377) (by rw [c40]; decide) (by decide) ?_
        refine V_aload_n X (i := 1) 1 dL_law_1410 rfl rfl ?_
        refine V_aload_n X (i := 0) 0 dL_law_1411 rfl rfl ?_
        refine V_iload_n X (i := 3) 3 dL_law_1412 rfl rfl ?_
        refine V_iconst X (v := (1 : Int32)) dL_law_1413 (by decide) ?_
        refine V_iadd X dL_law_1414 ?_
        obtain ⟨g304, h⟩ := h
        refine V_sld X hX hbl g304 dL_law_1415 ?_
        refine K_11_count X (Or.inl q_1166) h ⟨Nat.le_of_ble_eq_true rfl, Nat.le_of_ble_eq_true rfl⟩ ⟨Nat.le_of_ble_eq_true rfl, Nat.le_of_ble_eq_true rfl⟩ (st1 := []) (Nat.le_of_ble_eq_true rfl) dL_law_1416 (fun r306 w305 h => ?_)
        refine V_aload_n X (i := 2) 2 dL_law_1419 rfl rfl ?_
        refine V_aload_n X (i := 0) 0 dL_law_1420 rfl rfl ?_
        refine V_iload_n X (i := 3) 3 dL_law_1421 rfl rfl ?_
        refine V_iconst X (v := (1 : Int32)) dL_law_1422 (by decide) ?_
        refine V_iadd X dL_law_1423 ?_
        obtain ⟨g307, h⟩ := h
        refine V_sld X hX hbl g307 dL_law_1424 ?_
        refine K_12_count X (Or.inl q_1831) hZ h ⟨Nat.le_of_ble_eq_true rfl, Nat.le_of_ble_eq_true rfl⟩ ⟨Nat.le_of_ble_eq_true rfl, Nat.le_of_ble_eq_true rfl⟩ (st1 := [.int r306]) (Nat.le_of_ble_eq_true rfl) dL_law_1425 (fun r309 w308 v310 h => ?_)
        obtain ⟨ht, hf⟩ := h
        refine V_icmp_eq X (tgt := 1433) dL_law_1428 (by decide) (fun c => ?_) (fun c => ?_)
        · have h := ht c
          refine V_sub X (ls1 := [(0, .ref b), (1, .ref (ad 0)), (2, .ref (ad 150)), (3, .int l3)]) [0, 1, 2, 3] rfl ?_
          exact v_law_b1433 X hr hZ hX hbl ih _ _ _ _ h
        · have h := hf c
          refine V_iconst X (v := (0 : Int32)) dL_law_1431 (by decide) ?_
          exact h.elim
      have h := h c40
      have z0 := tne c0 (z := 0) (by decide)
      have z1 := tne c1 (z := 1) (by decide)
      have z2 := tne c2 (z := 2) (by decide)
      have z3 := tne c3 (z := 3) (by decide)
      have z4 := tne c4 (z := 4) (by decide)
      have z5 := tne c5 (z := 5) (by decide)
      have z6 := tne c6 (z := 6) (by decide)
      have z7 := tne c7 (z := 7) (by decide)
      have z8 := tne c8 (z := 8) (by decide)
      have z9 := tne c9 (z := 9) (by decide)
      have z10 := tne c10 (z := 10) (by decide)
      have z11 := tne c11 (z := 11) (by decide)
      have z12 := tne c12 (z := 12) (by decide)
      have z13 := tne c13 (z := 13) (by decide)
      have z14 := tne c14 (z := 14) (by decide)
      have z15 := tne c15 (z := 15) (by decide)
      have z16 := tne c16 (z := 16) (by decide)
      have z17 := tne c17 (z := 17) (by decide)
      have z18 := tne c18 (z := 18) (by decide)
      have z19 := tne c19 (z := 19) (by decide)
      have z20 := tne c20 (z := 20) (by decide)
      have z21 := tne c21 (z := 21) (by decide)
      have z22 := tne c22 (z := 22) (by decide)
      have z23 := tne c23 (z := 23) (by decide)
      have z24 := tne c24 (z := 24) (by decide)
      have z25 := tne c25 (z := 25) (by decide)
      have z26 := tne c26 (z := 26) (by decide)
      have z27 := tne c27 (z := 27) (by decide)
      have z28 := tne c28 (z := 28) (by decide)
      have z29 := tne c29 (z := 29) (by decide)
      have z30 := tne c30 (z := 30) (by decide)
      have z31 := tne c31 (z := 31) (by decide)
      have z32 := tne c32 (z := 32) (by decide)
      have z33 := tne c33 (z := 33) (by decide)
      have z34 := tne c34 (z := 34) (by decide)
      have z35 := tne c35 (z := 35) (by decide)
      have z36 := tne c36 (z := 36) (by decide)
      have z37 := tne c37 (z := 37) (by decide)
      have z38 := tne c38 (z := 38) (by decide)
      have z39 := tne c39 (z := 39) (by decide)
      have z40 := tne c40 (z := 40) (by decide)
      refine V_tableOut X (tgt := 1433) dL_law_33 (by omega) (by decide) ?_
      refine V_sub X (ls1 := [(0, .ref b), (1, .ref (ad 0)), (2, .ref (ad 150)), (3, .int l3)]) [0, 1, 2, 3] rfl ?_
      exact v_law_b1433 X hr hZ hX hbl ih _ _ _ _ h
end
