-- printed by wip/whole/gen7.py
theorem q_28 : (Jvm.Cond.instanceMethod ({ cls := "java/lang/Object", name := "<init>", desc := "()V" } : Jvm.MethodName)) ∈ TBG := inG1 (i := 28) rfl rfl
theorem q_29 : (Jvm.Cond.code ({ cls := "java/lang/Object", name := "<init>", desc := "()V" } : Jvm.MethodName) object_method_1_code (1 : Nat) (Option.none : Option Jvm.ClassFile.FieldType)) ∈ TBG := inG1 (i := 29) rfl rfl
theorem q_33 : (Jvm.Cond.instanceMethod ({ cls := "WindJump$Tape", name := "<init>", desc := "()V" } : Jvm.MethodName)) ∈ TBG := inG1 (i := 33) rfl rfl
theorem q_34 : (Jvm.Cond.code ({ cls := "WindJump$Tape", name := "<init>", desc := "()V" } : Jvm.MethodName) prog_9_method_1_code (1 : Nat) (Option.none : Option Jvm.ClassFile.FieldType)) ∈ TBG := inG1 (i := 34) rfl rfl
theorem q_35 : (Jvm.Cond.methodLink "WindJump$Tape" (3 : Nat) ({ cls := "java/lang/Object", name := "<init>", desc := "()V" } : Jvm.MethodName)) ∈ TBG := inG1 (i := 35) rfl rfl
theorem q_45 : (Jvm.Cond.arrayClass Jvm.ClassFile.FieldType.byte) ∈ TBG := inG1 (i := 45) rfl rfl
theorem q_49 : (Jvm.Cond.instanceMethod ({ cls := "WindJump$Tokens", name := "<init>", desc := "(LWindJump$Tape;)V" } : Jvm.MethodName)) ∈ TBG := inG1 (i := 49) rfl rfl
theorem q_50 : (Jvm.Cond.code ({ cls := "WindJump$Tokens", name := "<init>", desc := "(LWindJump$Tape;)V" } : Jvm.MethodName) prog_11_method_1_code (2 : Nat) (Option.none : Option Jvm.ClassFile.FieldType)) ∈ TBG := inG1 (i := 50) rfl rfl
theorem q_51 : (Jvm.Cond.methodLink "WindJump$Tokens" (3 : Nat) ({ cls := "java/lang/Object", name := "<init>", desc := "()V" } : Jvm.MethodName)) ∈ TBG := inG1 (i := 51) rfl rfl
theorem q_71 : (Jvm.Cond.arrayClass Jvm.ClassFile.FieldType.int) ∈ TBG := inG1 (i := 71) rfl rfl
theorem q_75 : (Jvm.Cond.instanceMethod ({ cls := "WindJump$Parser", name := "<init>", desc := "(LWindJump$Tokens;)V" } : Jvm.MethodName)) ∈ TBG := inG1 (i := 75) rfl rfl
theorem q_76 : (Jvm.Cond.code ({ cls := "WindJump$Parser", name := "<init>", desc := "(LWindJump$Tokens;)V" } : Jvm.MethodName) prog_5_method_1_code (2 : Nat) (Option.none : Option Jvm.ClassFile.FieldType)) ∈ TBG := inG1 (i := 76) rfl rfl
theorem q_77 : (Jvm.Cond.methodLink "WindJump$Parser" (3 : Nat) ({ cls := "java/lang/Object", name := "<init>", desc := "()V" } : Jvm.MethodName)) ∈ TBG := inG1 (i := 77) rfl rfl
theorem q_110 : (Jvm.Cond.instanceMethod ({ cls := "WindJump$Text", name := "<init>", desc := "()V" } : Jvm.MethodName)) ∈ TBG := inG1 (i := 110) rfl rfl
theorem q_111 : (Jvm.Cond.code ({ cls := "WindJump$Text", name := "<init>", desc := "()V" } : Jvm.MethodName) prog_10_method_1_code (1 : Nat) (Option.none : Option Jvm.ClassFile.FieldType)) ∈ TBG := inG1 (i := 111) rfl rfl
theorem q_112 : (Jvm.Cond.methodLink "WindJump$Text" (3 : Nat) ({ cls := "java/lang/Object", name := "<init>", desc := "()V" } : Jvm.MethodName)) ∈ TBG := inG1 (i := 112) rfl rfl
theorem q_113 : (Jvm.Cond.classLink "WindJump$Text" (9 : Nat) "WindJump$Law") ∈ TBG := inG1 (i := 113) rfl rfl
theorem q_114 : (Jvm.Cond.instantiable "WindJump$Law" (8 : Nat)) ∈ TBG := inG1 (i := 114) rfl rfl
theorem q_115 : (Jvm.Cond.methodLinkNest "WindJump$Text" (11 : Nat) ({ cls := "WindJump$Law", name := "<init>", desc := "()V" } : Jvm.MethodName) "WindJump") ∈ NWL := inN1 (i := 115) rfl rfl
theorem q_116 : (Jvm.Cond.instanceMethod ({ cls := "WindJump$Law", name := "<init>", desc := "()V" } : Jvm.MethodName)) ∈ TBG := inG1 (i := 116) rfl rfl
theorem q_117 : (Jvm.Cond.code ({ cls := "WindJump$Law", name := "<init>", desc := "()V" } : Jvm.MethodName) prog_4_method_1_code (1 : Nat) (Option.none : Option Jvm.ClassFile.FieldType)) ∈ TBG := inG1 (i := 117) rfl rfl
theorem q_118 : (Jvm.Cond.methodLink "WindJump$Law" (1 : Nat) ({ cls := "java/lang/Object", name := "<init>", desc := "()V" } : Jvm.MethodName)) ∈ TBG := inG1 (i := 118) rfl rfl
theorem q_145 : (Jvm.Cond.classLink "WindJump$Text" (34 : Nat) "WindJump$People") ∈ TBG := inG1 (i := 145) rfl rfl
theorem q_146 : (Jvm.Cond.instantiable "WindJump$People" (8 : Nat)) ∈ TBG := inG1 (i := 146) rfl rfl
theorem q_147 : (Jvm.Cond.methodLinkNest "WindJump$Text" (36 : Nat) ({ cls := "WindJump$People", name := "<init>", desc := "()V" } : Jvm.MethodName) "WindJump") ∈ NWL := inN1 (i := 147) rfl rfl
theorem q_148 : (Jvm.Cond.instanceMethod ({ cls := "WindJump$People", name := "<init>", desc := "()V" } : Jvm.MethodName)) ∈ TBG := inG1 (i := 148) rfl rfl
theorem q_149 : (Jvm.Cond.code ({ cls := "WindJump$People", name := "<init>", desc := "()V" } : Jvm.MethodName) prog_6_method_1_code (1 : Nat) (Option.none : Option Jvm.ClassFile.FieldType)) ∈ TBG := inG1 (i := 149) rfl rfl
theorem q_150 : (Jvm.Cond.methodLink "WindJump$People" (3 : Nat) ({ cls := "java/lang/Object", name := "<init>", desc := "()V" } : Jvm.MethodName)) ∈ TBG := inG1 (i := 150) rfl rfl
theorem q_290 : (Jvm.Cond.instanceMethod ({ cls := "WindJump$Flight", name := "<init>", desc := "(LWindJump$Text;)V" } : Jvm.MethodName)) ∈ TBG := inG2 (i := 50) rfl rfl
theorem q_291 : (Jvm.Cond.code ({ cls := "WindJump$Flight", name := "<init>", desc := "(LWindJump$Text;)V" } : Jvm.MethodName) prog_2_method_1_code (2 : Nat) (Option.none : Option Jvm.ClassFile.FieldType)) ∈ TBG := inG2 (i := 51) rfl rfl
theorem q_292 : (Jvm.Cond.methodLink "WindJump$Flight" (3 : Nat) ({ cls := "java/lang/Object", name := "<init>", desc := "()V" } : Jvm.MethodName)) ∈ TBG := inG2 (i := 52) rfl rfl
theorem q_332 : (Jvm.Cond.instanceMethod ({ cls := "WindJump$Play", name := "<init>", desc := "(LWindJump$Text;)V" } : Jvm.MethodName)) ∈ TBG := inG2 (i := 92) rfl rfl
theorem q_333 : (Jvm.Cond.code ({ cls := "WindJump$Play", name := "<init>", desc := "(LWindJump$Text;)V" } : Jvm.MethodName) prog_7_method_1_code (2 : Nat) (Option.none : Option Jvm.ClassFile.FieldType)) ∈ TBG := inG2 (i := 93) rfl rfl
theorem q_334 : (Jvm.Cond.methodLink "WindJump$Play" (5 : Nat) ({ cls := "java/lang/Object", name := "<init>", desc := "()V" } : Jvm.MethodName)) ∈ TBG := inG2 (i := 94) rfl rfl
theorem q_371 : (Jvm.Cond.instanceMethod ({ cls := "WindJump$Kept", name := "<init>", desc := "()V" } : Jvm.MethodName)) ∈ TBG := inG2 (i := 131) rfl rfl
theorem q_372 : (Jvm.Cond.code ({ cls := "WindJump$Kept", name := "<init>", desc := "()V" } : Jvm.MethodName) prog_3_method_1_code (1 : Nat) (Option.none : Option Jvm.ClassFile.FieldType)) ∈ TBG := inG2 (i := 132) rfl rfl
theorem q_373 : (Jvm.Cond.methodLink "WindJump$Kept" (1 : Nat) ({ cls := "java/lang/Object", name := "<init>", desc := "()V" } : Jvm.MethodName)) ∈ TBG := inG2 (i := 133) rfl rfl
theorem q_374 : (Jvm.Cond.classLink "WindJump$Kept" (11 : Nat) "[[I") ∈ TBG := inG2 (i := 134) rfl rfl
theorem q_390 : (Jvm.Cond.instanceMethod ({ cls := "WindJump$Slots", name := "<init>", desc := "()V" } : Jvm.MethodName)) ∈ TBG := inG2 (i := 150) rfl rfl
theorem q_391 : (Jvm.Cond.code ({ cls := "WindJump$Slots", name := "<init>", desc := "()V" } : Jvm.MethodName) prog_8_method_1_code (1 : Nat) (Option.none : Option Jvm.ClassFile.FieldType)) ∈ TBG := inG2 (i := 151) rfl rfl
theorem q_392 : (Jvm.Cond.methodLink "WindJump$Slots" (1 : Nat) ({ cls := "java/lang/Object", name := "<init>", desc := "()V" } : Jvm.MethodName)) ∈ TBG := inG2 (i := 152) rfl rfl
theorem q_393 : (Jvm.Cond.classLink "WindJump$Slots" (11 : Nat) "[[I") ∈ TBG := inG2 (i := 153) rfl rfl
theorem q_401 : (Jvm.Cond.arrayClass Jvm.ClassFile.FieldType.boolean) ∈ TBG := inG2 (i := 161) rfl rfl
theorem q_405 : (Jvm.Cond.instanceMethod ({ cls := "WindJump$Told", name := "<init>", desc := "()V" } : Jvm.MethodName)) ∈ TBG := inG2 (i := 165) rfl rfl
theorem q_406 : (Jvm.Cond.code ({ cls := "WindJump$Told", name := "<init>", desc := "()V" } : Jvm.MethodName) prog_12_method_1_code (1 : Nat) (Option.none : Option Jvm.ClassFile.FieldType)) ∈ TBG := inG2 (i := 166) rfl rfl
theorem q_407 : (Jvm.Cond.methodLink "WindJump$Told" (3 : Nat) ({ cls := "java/lang/Object", name := "<init>", desc := "()V" } : Jvm.MethodName)) ∈ TBG := inG2 (i := 167) rfl rfl
theorem SR98 : ∀ i r, SRq 98 i = some r → r < 139 := by
  intro i r h
  by_cases hi : i < 40
  · rw [grid_98 i hi] at h
    cases h
    omega
  · have h1 : SRq 98 i = none := by
      unfold SRq
      rw [List.getD_eq_getElem?_getD (l := SRL.getD 98 []), List.getElem?_eq_none (by show 40 ≤ i; omega)]
      rfl
    rw [h1] at h
    cases h
theorem SR140 : ∀ i r, SRq 140 i = some r → r < 144 := by
  intro i r h
  by_cases hi : i < 3
  · rw [grid_140 i hi] at h
    cases h
    omega
  · have h1 : SRq 140 i = none := by
      unfold SRq
      rw [List.getD_eq_getElem?_getD (l := SRL.getD 140 []), List.getElem?_eq_none (by show 3 ≤ i; omega)]
      rfl
    rw [h1] at h
    cases h
theorem gridm_98 : ∀ j, SRq 98 j = if j < 40 then some (97 + 1 + 1 + j) else none := by
  intro j
  by_cases hi : j < 40
  · rw [grid_98 j hi, if_pos hi]
  · rw [if_neg hi]
    unfold SRq
    rw [List.getD_eq_getElem?_getD (l := SRL.getD 98 []), List.getElem?_eq_none (by show 40 ≤ j; omega)]
    rfl
theorem gridm_140 : ∀ j, SRq 140 j = if j < 3 then some (139 + 1 + 1 + j) else none := by
  intro j
  by_cases hi : j < 3
  · rw [grid_140 j hi, if_pos hi]
  · rw [if_neg hi]
    unfold SRq
    rw [List.getD_eq_getElem?_getD (l := SRL.getD 140 []), List.getElem?_eq_none (by show 3 ≤ j; omega)]
    rfl
theorem SK17 : ∀ k, k < 189 → SK k = 17 → k = 98 ∨ k = 140 := by decide +kernel
theorem GOKx (N : Nat) (h : N ≤ 98 ∨ (139 ≤ N ∧ N ≤ 140) ∨ (144 ≤ N ∧ N ≤ 189)) : GOK N := fun k hk => by
  by_cases h1 : SK k = 17
  · rcases SK17 k (by omega) h1 with rfl | rfl
    · exact Or.inr fun i r hr => Nat.lt_of_lt_of_le (SR98 i r hr) (by omega)
    · exact Or.inr fun i r hr => Nat.lt_of_lt_of_le (SR140 i r hr) (by omega)
  · exact Or.inl h1
theorem mfi_7 : MFI yX7_init cX7_init 1 0 := ⟨q_34, q_33, q_2, rfl, by decide⟩
def rfo_7_1 (rf : RFq) : RFq := (strf rf 1 0 2)
set_option maxRecDepth 20000 in
theorem ci_7_1 (l : Launch) {ad : Nat → Nat} {cy : Nat → ClassId} {D : va_G} {rf : RFq} {w : Mem} {wl : MemL} (hok : OKR 2 rf w wl) (hgk : GOK 2) (sz : Nat) : Met l yX7_init (TBq yX7_init cX7_init 1 none) (RG 1 1 2000) (va_Pc [.ref (ad 1)] (fun U => U.heap.size = sz ∧ PG ad cy D rf 2 w wl U)) (va_Qv (QG ad 2 (fun a b c => a = rfo_7_1 rf ∧ b = w ∧ c = wl)) (BG cy D (AGc ad 2 sz) 3) (AGc ad 2 sz)) 1 2000 (AGc ad 2 sz) := by
  refine MG_enter (by decide) (Nat.le_of_ble_eq_true rfl) hok hgk (fun p e s m args below meth c X hr hin => ?_)
  show VG p l e _ s m args below meth c 1 ad cy D _ _ 0 0 _ rf 2 w wl 0 [(0, .ref (ad 1))] []
  refine VG_aload_n X (i := 0) 0 dX7_init_0 rfl rfl ?_
  refine VG_objInit X q_35 q_28 q_29 dX7_init_1 (Nat.le_of_ble_eq_true rfl) (by decide) ?_
  refine VG_aload_n X (i := 0) 0 dX7_init_4 rfl rfl ?_
  refine VG_sipush X (v := (2000 : Int32)) dX7_init_5 (by decide) ?_
  refine VG_newaB X (n := 2000) (by decide) (by decide) rfl rfl (by decide) q_45 (Nat.le_of_ble_eq_true rfl) (Nat.le_of_ble_eq_true rfl) dX7_init_8 (fun ad1 hx1 => ?_)
  rw [← hx1 1 (by decide)]
  refine VG_putR X (rfl : vwCl[7]? = some (RX7, TX7, 2)) uin_7 (i := 0) (by decide) rfl (by decide) rfl rfl (by decide) tyX7 tyX7_ok nmX7 (rfl : SRq 1 0 = some 2) (by decide) rfl hin rfl (tyX7_ok 0 (by decide)) rfl rfl q_36 dX7_init_10 ?_
  exact VG_ret X hr (fun k hk => hx1 k (by omega)) dX7_init_13 ⟨rfl, rfl, rfl⟩
theorem mfi_9 : MFI yX9_init cX9_init 2 1 := ⟨q_50, q_49, q_3, rfl, by decide⟩
def rfo_9_3 (rf : RFq) : RFq := (strf (strf (strf (strf rf 3 1 4) 3 2 5) 3 3 6) 3 0 1)
set_option maxRecDepth 20000 in
theorem ci_9_3 (l : Launch) {ad : Nat → Nat} {cy : Nat → ClassId} {D : va_G} {rf : RFq} {w : Mem} {wl : MemL} (hok : OKR 4 rf w wl) (hgk : GOK 4) (sz : Nat) : Met l yX9_init (TBq yX9_init cX9_init 2 none) (RG 1 3 1203) (va_Pc [.ref (ad 3), .ref (ad 1)] (fun U => U.heap.size = sz ∧ PG ad cy D rf 4 w wl U)) (va_Qv (QG ad 4 (fun a b c => a = rfo_9_3 rf ∧ b = w ∧ c = wl)) (BG cy D (AGc ad 4 sz) 7) (AGc ad 4 sz)) 3 1203 (AGc ad 4 sz) := by
  refine MG_enter (by decide) (Nat.le_of_ble_eq_true rfl) hok hgk (fun p e s m args below meth c X hr hin => ?_)
  show VG p l e _ s m args below meth c 2 ad cy D _ _ 0 0 _ rf 4 w wl 0 [(0, .ref (ad 3)), (1, .ref (ad 1))] []
  refine VG_aload_n X (i := 0) 0 dX9_init_0 rfl rfl ?_
  refine VG_objInit X q_51 q_28 q_29 dX9_init_1 (Nat.le_of_ble_eq_true rfl) (by decide) ?_
  refine VG_aload_n X (i := 0) 0 dX9_init_4 rfl rfl ?_
  refine VG_sipush X (v := (401 : Int32)) dX9_init_5 (by decide) ?_
  refine VG_newaI X (n := 401) (by decide) (by decide) rfl rfl (by decide) q_71 (Nat.le_of_ble_eq_true rfl) (Nat.le_of_ble_eq_true rfl) dX9_init_8 (fun ad1 hx1 => ?_)
  rw [← hx1 3 (by decide), ← hx1 1 (by decide)]
  refine VG_putR X (rfl : vwCl[9]? = some (RX9, TX9, 5)) uin_9 (i := 1) (by decide) rfl (by decide) rfl rfl (by decide) tyX9 tyX9_ok nmX9 (rfl : SRq 3 1 = some 4) (by decide) rfl hin rfl (tyX9_ok 1 (by decide)) rfl rfl q_53 dX9_init_10 ?_
  refine VG_aload_n X (i := 0) 0 dX9_init_13 rfl rfl ?_
  refine VG_sipush X (v := (401 : Int32)) dX9_init_14 (by decide) ?_
  refine VG_newaI X (n := 401) (by decide) (by decide) rfl rfl (by decide) q_71 (Nat.le_of_ble_eq_true rfl) (Nat.le_of_ble_eq_true rfl) dX9_init_17 (fun ad2 hx2 => ?_)
  rw [← hx2 3 (by decide), ← hx2 1 (by decide)]
  refine VG_putR X (rfl : vwCl[9]? = some (RX9, TX9, 5)) uin_9 (i := 2) (by decide) rfl (by decide) rfl rfl (by decide) tyX9 tyX9_ok nmX9 (rfl : SRq 3 2 = some 5) (by decide) rfl hin rfl (tyX9_ok 2 (by decide)) rfl rfl q_55 dX9_init_19 ?_
  refine VG_aload_n X (i := 0) 0 dX9_init_22 rfl rfl ?_
  refine VG_sipush X (v := (401 : Int32)) dX9_init_23 (by decide) ?_
  refine VG_newaI X (n := 401) (by decide) (by decide) rfl rfl (by decide) q_71 (Nat.le_of_ble_eq_true rfl) (Nat.le_of_ble_eq_true rfl) dX9_init_26 (fun ad3 hx3 => ?_)
  rw [← hx3 3 (by decide), ← hx3 1 (by decide)]
  refine VG_putR X (rfl : vwCl[9]? = some (RX9, TX9, 5)) uin_9 (i := 3) (by decide) rfl (by decide) rfl rfl (by decide) tyX9 tyX9_ok nmX9 (rfl : SRq 3 3 = some 6) (by decide) rfl hin rfl (tyX9_ok 3 (by decide)) rfl rfl q_57 dX9_init_28 ?_
  refine VG_aload_n X (i := 0) 0 dX9_init_31 rfl rfl ?_
  refine VG_aload_n X (i := 1) 1 dX9_init_32 rfl rfl ?_
  refine VG_putR X (rfl : vwCl[9]? = some (RX9, TX9, 5)) uin_9 (i := 0) (by decide) rfl (by decide) rfl rfl (by decide) tyX9 tyX9_ok nmX9 (rfl : SRq 3 0 = some 1) (by decide) rfl hin rfl (tyX9_ok 0 (by decide)) rfl rfl q_52 dX9_init_33 ?_
  exact VG_ret X hr (fun k hk => (hx3 k (by omega)).trans ((hx2 k (by omega)).trans (hx1 k (by omega)))) dX9_init_36 ⟨rfl, rfl, rfl⟩
theorem mfi_3 : MFI yX3_init cX3_init 2 1 := ⟨q_76, q_75, q_4, rfl, by decide⟩
def rfo_3_7 (rf : RFq) : RFq := (strf (strf rf 7 1 8) 7 0 3)
set_option maxRecDepth 20000 in
theorem ci_3_7 (l : Launch) {ad : Nat → Nat} {cy : Nat → ClassId} {D : va_G} {rf : RFq} {w : Mem} {wl : MemL} (hok : OKR 8 rf w wl) (hgk : GOK 8) (sz : Nat) : Met l yX3_init (TBq yX3_init cX3_init 2 none) (RG 1 1 15) (va_Pc [.ref (ad 7), .ref (ad 3)] (fun U => U.heap.size = sz ∧ PG ad cy D rf 8 w wl U)) (va_Qv (QG ad 8 (fun a b c => a = rfo_3_7 rf ∧ b = w ∧ c = wl)) (BG cy D (AGc ad 8 sz) 9) (AGc ad 8 sz)) 1 15 (AGc ad 8 sz) := by
  refine MG_enter (by decide) (Nat.le_of_ble_eq_true rfl) hok hgk (fun p e s m args below meth c X hr hin => ?_)
  show VG p l e _ s m args below meth c 2 ad cy D _ _ 0 0 _ rf 8 w wl 0 [(0, .ref (ad 7)), (1, .ref (ad 3))] []
  refine VG_aload_n X (i := 0) 0 dX3_init_0 rfl rfl ?_
  refine VG_objInit X q_77 q_28 q_29 dX3_init_1 (Nat.le_of_ble_eq_true rfl) (by decide) ?_
  refine VG_aload_n X (i := 0) 0 dX3_init_4 rfl rfl ?_
  refine VG_bipush X (v := (15 : Int32)) dX3_init_5 (by decide) ?_
  refine VG_newaI X (n := 15) (by decide) (by decide) rfl rfl (by decide) q_71 (Nat.le_of_ble_eq_true rfl) (Nat.le_of_ble_eq_true rfl) dX3_init_7 (fun ad1 hx1 => ?_)
  rw [← hx1 7 (by decide), ← hx1 3 (by decide)]
  refine VG_putR X (rfl : vwCl[3]? = some (RX3, TX3, 9)) uin_3 (i := 1) (by decide) rfl (by decide) rfl rfl (by decide) tyX3 tyX3_ok nmX3 (rfl : SRq 7 1 = some 8) (by decide) rfl hin rfl (tyX3_ok 1 (by decide)) rfl rfl q_79 dX3_init_9 ?_
  refine VG_aload_n X (i := 0) 0 dX3_init_12 rfl rfl ?_
  refine VG_aload_n X (i := 1) 1 dX3_init_13 rfl rfl ?_
  refine VG_putR X (rfl : vwCl[3]? = some (RX3, TX3, 9)) uin_3 (i := 0) (by decide) rfl (by decide) rfl rfl (by decide) tyX3 tyX3_ok nmX3 (rfl : SRq 7 0 = some 3) (by decide) rfl hin rfl (tyX3_ok 0 (by decide)) rfl rfl q_78 dX3_init_14 ?_
  exact VG_ret X hr (fun k hk => hx1 k (by omega)) dX3_init_17 ⟨rfl, rfl, rfl⟩
theorem mfi_2 : MFI yX2_init cX2_init 1 0 := ⟨q_117, q_116, q_6, rfl, by decide⟩
def rfo_2_10 (rf : RFq) : RFq := (strf (strf (strf (strf (strf rf 10 0 11) 10 1 12) 10 2 13) 10 3 14) 10 4 15)
set_option maxRecDepth 20000 in
theorem ci_2_10 (l : Launch) {ad : Nat → Nat} {cy : Nat → ClassId} {D : va_G} {rf : RFq} {w : Mem} {wl : MemL} (hok : OKR 11 rf w wl) (hgk : GOK 11) (sz : Nat) : Met l yX2_init (TBq yX2_init cX2_init 1 none) (RG 1 5 840) (va_Pc [.ref (ad 10)] (fun U => U.heap.size = sz ∧ PG ad cy D rf 11 w wl U)) (va_Qv (QG ad 11 (fun a b c => a = rfo_2_10 rf ∧ b = w ∧ c = wl)) (BG cy D (AGc ad 11 sz) 16) (AGc ad 11 sz)) 5 840 (AGc ad 11 sz) := by
  refine MG_enter (by decide) (Nat.le_of_ble_eq_true rfl) hok hgk (fun p e s m args below meth c X hr hin => ?_)
  show VG p l e _ s m args below meth c 1 ad cy D _ _ 0 0 _ rf 11 w wl 0 [(0, .ref (ad 10))] []
  refine VG_aload_n X (i := 0) 0 dX2_init_0 rfl rfl ?_
  refine VG_objInit X q_118 q_28 q_29 dX2_init_1 (Nat.le_of_ble_eq_true rfl) (by decide) ?_
  refine VG_aload_n X (i := 0) 0 dX2_init_4 rfl rfl ?_
  refine VG_sipush X (v := (400 : Int32)) dX2_init_5 (by decide) ?_
  refine VG_newaI X (n := 400) (by decide) (by decide) rfl rfl (by decide) q_71 (Nat.le_of_ble_eq_true rfl) (Nat.le_of_ble_eq_true rfl) dX2_init_8 (fun ad1 hx1 => ?_)
  rw [← hx1 10 (by decide)]
  refine VG_putR X (rfl : vwCl[2]? = some (RX2, TX2, 8)) uin_2 (i := 0) (by decide) rfl (by decide) rfl rfl (by decide) tyX2 tyX2_ok nmX2 (rfl : SRq 10 0 = some 11) (by decide) rfl hin rfl (tyX2_ok 0 (by decide)) rfl rfl q_119 dX2_init_10 ?_
  refine VG_aload_n X (i := 0) 0 dX2_init_13 rfl rfl ?_
  refine VG_sipush X (v := (400 : Int32)) dX2_init_14 (by decide) ?_
  refine VG_newaI X (n := 400) (by decide) (by decide) rfl rfl (by decide) q_71 (Nat.le_of_ble_eq_true rfl) (Nat.le_of_ble_eq_true rfl) dX2_init_17 (fun ad2 hx2 => ?_)
  rw [← hx2 10 (by decide)]
  refine VG_putR X (rfl : vwCl[2]? = some (RX2, TX2, 8)) uin_2 (i := 1) (by decide) rfl (by decide) rfl rfl (by decide) tyX2 tyX2_ok nmX2 (rfl : SRq 10 1 = some 12) (by decide) rfl hin rfl (tyX2_ok 1 (by decide)) rfl rfl q_120 dX2_init_19 ?_
  refine VG_aload_n X (i := 0) 0 dX2_init_22 rfl rfl ?_
  refine VG_bipush X (v := (13 : Int32)) dX2_init_23 (by decide) ?_
  refine VG_newaI X (n := 13) (by decide) (by decide) rfl rfl (by decide) q_71 (Nat.le_of_ble_eq_true rfl) (Nat.le_of_ble_eq_true rfl) dX2_init_25 (fun ad3 hx3 => ?_)
  rw [← hx3 10 (by decide)]
  refine VG_putR X (rfl : vwCl[2]? = some (RX2, TX2, 8)) uin_2 (i := 2) (by decide) rfl (by decide) rfl rfl (by decide) tyX2 tyX2_ok nmX2 (rfl : SRq 10 2 = some 13) (by decide) rfl hin rfl (tyX2_ok 2 (by decide)) rfl rfl q_121 dX2_init_27 ?_
  refine VG_aload_n X (i := 0) 0 dX2_init_30 rfl rfl ?_
  refine VG_bipush X (v := (11 : Int32)) dX2_init_31 (by decide) ?_
  refine VG_newaI X (n := 11) (by decide) (by decide) rfl rfl (by decide) q_71 (Nat.le_of_ble_eq_true rfl) (Nat.le_of_ble_eq_true rfl) dX2_init_33 (fun ad4 hx4 => ?_)
  rw [← hx4 10 (by decide)]
  refine VG_putR X (rfl : vwCl[2]? = some (RX2, TX2, 8)) uin_2 (i := 3) (by decide) rfl (by decide) rfl rfl (by decide) tyX2 tyX2_ok nmX2 (rfl : SRq 10 3 = some 14) (by decide) rfl hin rfl (tyX2_ok 3 (by decide)) rfl rfl q_122 dX2_init_35 ?_
  refine VG_aload_n X (i := 0) 0 dX2_init_38 rfl rfl ?_
  refine VG_bipush X (v := (16 : Int32)) dX2_init_39 (by decide) ?_
  refine VG_newaI X (n := 16) (by decide) (by decide) rfl rfl (by decide) q_71 (Nat.le_of_ble_eq_true rfl) (Nat.le_of_ble_eq_true rfl) dX2_init_41 (fun ad5 hx5 => ?_)
  rw [← hx5 10 (by decide)]
  refine VG_putR X (rfl : vwCl[2]? = some (RX2, TX2, 8)) uin_2 (i := 4) (by decide) rfl (by decide) rfl rfl (by decide) tyX2 tyX2_ok nmX2 (rfl : SRq 10 4 = some 15) (by decide) rfl hin rfl (tyX2_ok 4 (by decide)) rfl rfl q_123 dX2_init_43 ?_
  exact VG_ret X hr (fun k hk => (hx5 k (by omega)).trans ((hx4 k (by omega)).trans ((hx3 k (by omega)).trans ((hx2 k (by omega)).trans (hx1 k (by omega)))))) dX2_init_46 ⟨rfl, rfl, rfl⟩
def rfo_2_16 (rf : RFq) : RFq := (strf (strf (strf (strf (strf rf 16 0 17) 16 1 18) 16 2 19) 16 3 20) 16 4 21)
set_option maxRecDepth 20000 in
theorem ci_2_16 (l : Launch) {ad : Nat → Nat} {cy : Nat → ClassId} {D : va_G} {rf : RFq} {w : Mem} {wl : MemL} (hok : OKR 17 rf w wl) (hgk : GOK 17) (sz : Nat) : Met l yX2_init (TBq yX2_init cX2_init 1 none) (RG 1 5 840) (va_Pc [.ref (ad 16)] (fun U => U.heap.size = sz ∧ PG ad cy D rf 17 w wl U)) (va_Qv (QG ad 17 (fun a b c => a = rfo_2_16 rf ∧ b = w ∧ c = wl)) (BG cy D (AGc ad 17 sz) 22) (AGc ad 17 sz)) 5 840 (AGc ad 17 sz) := by
  refine MG_enter (by decide) (Nat.le_of_ble_eq_true rfl) hok hgk (fun p e s m args below meth c X hr hin => ?_)
  show VG p l e _ s m args below meth c 1 ad cy D _ _ 0 0 _ rf 17 w wl 0 [(0, .ref (ad 16))] []
  refine VG_aload_n X (i := 0) 0 dX2_init_0 rfl rfl ?_
  refine VG_objInit X q_118 q_28 q_29 dX2_init_1 (Nat.le_of_ble_eq_true rfl) (by decide) ?_
  refine VG_aload_n X (i := 0) 0 dX2_init_4 rfl rfl ?_
  refine VG_sipush X (v := (400 : Int32)) dX2_init_5 (by decide) ?_
  refine VG_newaI X (n := 400) (by decide) (by decide) rfl rfl (by decide) q_71 (Nat.le_of_ble_eq_true rfl) (Nat.le_of_ble_eq_true rfl) dX2_init_8 (fun ad1 hx1 => ?_)
  rw [← hx1 16 (by decide)]
  refine VG_putR X (rfl : vwCl[2]? = some (RX2, TX2, 8)) uin_2 (i := 0) (by decide) rfl (by decide) rfl rfl (by decide) tyX2 tyX2_ok nmX2 (rfl : SRq 16 0 = some 17) (by decide) rfl hin rfl (tyX2_ok 0 (by decide)) rfl rfl q_119 dX2_init_10 ?_
  refine VG_aload_n X (i := 0) 0 dX2_init_13 rfl rfl ?_
  refine VG_sipush X (v := (400 : Int32)) dX2_init_14 (by decide) ?_
  refine VG_newaI X (n := 400) (by decide) (by decide) rfl rfl (by decide) q_71 (Nat.le_of_ble_eq_true rfl) (Nat.le_of_ble_eq_true rfl) dX2_init_17 (fun ad2 hx2 => ?_)
  rw [← hx2 16 (by decide)]
  refine VG_putR X (rfl : vwCl[2]? = some (RX2, TX2, 8)) uin_2 (i := 1) (by decide) rfl (by decide) rfl rfl (by decide) tyX2 tyX2_ok nmX2 (rfl : SRq 16 1 = some 18) (by decide) rfl hin rfl (tyX2_ok 1 (by decide)) rfl rfl q_120 dX2_init_19 ?_
  refine VG_aload_n X (i := 0) 0 dX2_init_22 rfl rfl ?_
  refine VG_bipush X (v := (13 : Int32)) dX2_init_23 (by decide) ?_
  refine VG_newaI X (n := 13) (by decide) (by decide) rfl rfl (by decide) q_71 (Nat.le_of_ble_eq_true rfl) (Nat.le_of_ble_eq_true rfl) dX2_init_25 (fun ad3 hx3 => ?_)
  rw [← hx3 16 (by decide)]
  refine VG_putR X (rfl : vwCl[2]? = some (RX2, TX2, 8)) uin_2 (i := 2) (by decide) rfl (by decide) rfl rfl (by decide) tyX2 tyX2_ok nmX2 (rfl : SRq 16 2 = some 19) (by decide) rfl hin rfl (tyX2_ok 2 (by decide)) rfl rfl q_121 dX2_init_27 ?_
  refine VG_aload_n X (i := 0) 0 dX2_init_30 rfl rfl ?_
  refine VG_bipush X (v := (11 : Int32)) dX2_init_31 (by decide) ?_
  refine VG_newaI X (n := 11) (by decide) (by decide) rfl rfl (by decide) q_71 (Nat.le_of_ble_eq_true rfl) (Nat.le_of_ble_eq_true rfl) dX2_init_33 (fun ad4 hx4 => ?_)
  rw [← hx4 16 (by decide)]
  refine VG_putR X (rfl : vwCl[2]? = some (RX2, TX2, 8)) uin_2 (i := 3) (by decide) rfl (by decide) rfl rfl (by decide) tyX2 tyX2_ok nmX2 (rfl : SRq 16 3 = some 20) (by decide) rfl hin rfl (tyX2_ok 3 (by decide)) rfl rfl q_122 dX2_init_35 ?_
  refine VG_aload_n X (i := 0) 0 dX2_init_38 rfl rfl ?_
  refine VG_bipush X (v := (16 : Int32)) dX2_init_39 (by decide) ?_
  refine VG_newaI X (n := 16) (by decide) (by decide) rfl rfl (by decide) q_71 (Nat.le_of_ble_eq_true rfl) (Nat.le_of_ble_eq_true rfl) dX2_init_41 (fun ad5 hx5 => ?_)
  rw [← hx5 16 (by decide)]
  refine VG_putR X (rfl : vwCl[2]? = some (RX2, TX2, 8)) uin_2 (i := 4) (by decide) rfl (by decide) rfl rfl (by decide) tyX2 tyX2_ok nmX2 (rfl : SRq 16 4 = some 21) (by decide) rfl hin rfl (tyX2_ok 4 (by decide)) rfl rfl q_123 dX2_init_43 ?_
  exact VG_ret X hr (fun k hk => (hx5 k (by omega)).trans ((hx4 k (by omega)).trans ((hx3 k (by omega)).trans ((hx2 k (by omega)).trans (hx1 k (by omega)))))) dX2_init_46 ⟨rfl, rfl, rfl⟩
def rfo_2_22 (rf : RFq) : RFq := (strf (strf (strf (strf (strf rf 22 0 23) 22 1 24) 22 2 25) 22 3 26) 22 4 27)
set_option maxRecDepth 20000 in
theorem ci_2_22 (l : Launch) {ad : Nat → Nat} {cy : Nat → ClassId} {D : va_G} {rf : RFq} {w : Mem} {wl : MemL} (hok : OKR 23 rf w wl) (hgk : GOK 23) (sz : Nat) : Met l yX2_init (TBq yX2_init cX2_init 1 none) (RG 1 5 840) (va_Pc [.ref (ad 22)] (fun U => U.heap.size = sz ∧ PG ad cy D rf 23 w wl U)) (va_Qv (QG ad 23 (fun a b c => a = rfo_2_22 rf ∧ b = w ∧ c = wl)) (BG cy D (AGc ad 23 sz) 28) (AGc ad 23 sz)) 5 840 (AGc ad 23 sz) := by
  refine MG_enter (by decide) (Nat.le_of_ble_eq_true rfl) hok hgk (fun p e s m args below meth c X hr hin => ?_)
  show VG p l e _ s m args below meth c 1 ad cy D _ _ 0 0 _ rf 23 w wl 0 [(0, .ref (ad 22))] []
  refine VG_aload_n X (i := 0) 0 dX2_init_0 rfl rfl ?_
  refine VG_objInit X q_118 q_28 q_29 dX2_init_1 (Nat.le_of_ble_eq_true rfl) (by decide) ?_
  refine VG_aload_n X (i := 0) 0 dX2_init_4 rfl rfl ?_
  refine VG_sipush X (v := (400 : Int32)) dX2_init_5 (by decide) ?_
  refine VG_newaI X (n := 400) (by decide) (by decide) rfl rfl (by decide) q_71 (Nat.le_of_ble_eq_true rfl) (Nat.le_of_ble_eq_true rfl) dX2_init_8 (fun ad1 hx1 => ?_)
  rw [← hx1 22 (by decide)]
  refine VG_putR X (rfl : vwCl[2]? = some (RX2, TX2, 8)) uin_2 (i := 0) (by decide) rfl (by decide) rfl rfl (by decide) tyX2 tyX2_ok nmX2 (rfl : SRq 22 0 = some 23) (by decide) rfl hin rfl (tyX2_ok 0 (by decide)) rfl rfl q_119 dX2_init_10 ?_
  refine VG_aload_n X (i := 0) 0 dX2_init_13 rfl rfl ?_
  refine VG_sipush X (v := (400 : Int32)) dX2_init_14 (by decide) ?_
  refine VG_newaI X (n := 400) (by decide) (by decide) rfl rfl (by decide) q_71 (Nat.le_of_ble_eq_true rfl) (Nat.le_of_ble_eq_true rfl) dX2_init_17 (fun ad2 hx2 => ?_)
  rw [← hx2 22 (by decide)]
  refine VG_putR X (rfl : vwCl[2]? = some (RX2, TX2, 8)) uin_2 (i := 1) (by decide) rfl (by decide) rfl rfl (by decide) tyX2 tyX2_ok nmX2 (rfl : SRq 22 1 = some 24) (by decide) rfl hin rfl (tyX2_ok 1 (by decide)) rfl rfl q_120 dX2_init_19 ?_
  refine VG_aload_n X (i := 0) 0 dX2_init_22 rfl rfl ?_
  refine VG_bipush X (v := (13 : Int32)) dX2_init_23 (by decide) ?_
  refine VG_newaI X (n := 13) (by decide) (by decide) rfl rfl (by decide) q_71 (Nat.le_of_ble_eq_true rfl) (Nat.le_of_ble_eq_true rfl) dX2_init_25 (fun ad3 hx3 => ?_)
  rw [← hx3 22 (by decide)]
  refine VG_putR X (rfl : vwCl[2]? = some (RX2, TX2, 8)) uin_2 (i := 2) (by decide) rfl (by decide) rfl rfl (by decide) tyX2 tyX2_ok nmX2 (rfl : SRq 22 2 = some 25) (by decide) rfl hin rfl (tyX2_ok 2 (by decide)) rfl rfl q_121 dX2_init_27 ?_
  refine VG_aload_n X (i := 0) 0 dX2_init_30 rfl rfl ?_
  refine VG_bipush X (v := (11 : Int32)) dX2_init_31 (by decide) ?_
  refine VG_newaI X (n := 11) (by decide) (by decide) rfl rfl (by decide) q_71 (Nat.le_of_ble_eq_true rfl) (Nat.le_of_ble_eq_true rfl) dX2_init_33 (fun ad4 hx4 => ?_)
  rw [← hx4 22 (by decide)]
  refine VG_putR X (rfl : vwCl[2]? = some (RX2, TX2, 8)) uin_2 (i := 3) (by decide) rfl (by decide) rfl rfl (by decide) tyX2 tyX2_ok nmX2 (rfl : SRq 22 3 = some 26) (by decide) rfl hin rfl (tyX2_ok 3 (by decide)) rfl rfl q_122 dX2_init_35 ?_
  refine VG_aload_n X (i := 0) 0 dX2_init_38 rfl rfl ?_
  refine VG_bipush X (v := (16 : Int32)) dX2_init_39 (by decide) ?_
  refine VG_newaI X (n := 16) (by decide) (by decide) rfl rfl (by decide) q_71 (Nat.le_of_ble_eq_true rfl) (Nat.le_of_ble_eq_true rfl) dX2_init_41 (fun ad5 hx5 => ?_)
  rw [← hx5 22 (by decide)]
  refine VG_putR X (rfl : vwCl[2]? = some (RX2, TX2, 8)) uin_2 (i := 4) (by decide) rfl (by decide) rfl rfl (by decide) tyX2 tyX2_ok nmX2 (rfl : SRq 22 4 = some 27) (by decide) rfl hin rfl (tyX2_ok 4 (by decide)) rfl rfl q_123 dX2_init_43 ?_
  exact VG_ret X hr (fun k hk => (hx5 k (by omega)).trans ((hx4 k (by omega)).trans ((hx3 k (by omega)).trans ((hx2 k (by omega)).trans (hx1 k (by omega)))))) dX2_init_46 ⟨rfl, rfl, rfl⟩
def rfo_2_28 (rf : RFq) : RFq := (strf (strf (strf (strf (strf rf 28 0 29) 28 1 30) 28 2 31) 28 3 32) 28 4 33)
set_option maxRecDepth 20000 in
theorem ci_2_28 (l : Launch) {ad : Nat → Nat} {cy : Nat → ClassId} {D : va_G} {rf : RFq} {w : Mem} {wl : MemL} (hok : OKR 29 rf w wl) (hgk : GOK 29) (sz : Nat) : Met l yX2_init (TBq yX2_init cX2_init 1 none) (RG 1 5 840) (va_Pc [.ref (ad 28)] (fun U => U.heap.size = sz ∧ PG ad cy D rf 29 w wl U)) (va_Qv (QG ad 29 (fun a b c => a = rfo_2_28 rf ∧ b = w ∧ c = wl)) (BG cy D (AGc ad 29 sz) 34) (AGc ad 29 sz)) 5 840 (AGc ad 29 sz) := by
  refine MG_enter (by decide) (Nat.le_of_ble_eq_true rfl) hok hgk (fun p e s m args below meth c X hr hin => ?_)
  show VG p l e _ s m args below meth c 1 ad cy D _ _ 0 0 _ rf 29 w wl 0 [(0, .ref (ad 28))] []
  refine VG_aload_n X (i := 0) 0 dX2_init_0 rfl rfl ?_
  refine VG_objInit X q_118 q_28 q_29 dX2_init_1 (Nat.le_of_ble_eq_true rfl) (by decide) ?_
  refine VG_aload_n X (i := 0) 0 dX2_init_4 rfl rfl ?_
  refine VG_sipush X (v := (400 : Int32)) dX2_init_5 (by decide) ?_
  refine VG_newaI X (n := 400) (by decide) (by decide) rfl rfl (by decide) q_71 (Nat.le_of_ble_eq_true rfl) (Nat.le_of_ble_eq_true rfl) dX2_init_8 (fun ad1 hx1 => ?_)
  rw [← hx1 28 (by decide)]
  refine VG_putR X (rfl : vwCl[2]? = some (RX2, TX2, 8)) uin_2 (i := 0) (by decide) rfl (by decide) rfl rfl (by decide) tyX2 tyX2_ok nmX2 (rfl : SRq 28 0 = some 29) (by decide) rfl hin rfl (tyX2_ok 0 (by decide)) rfl rfl q_119 dX2_init_10 ?_
  refine VG_aload_n X (i := 0) 0 dX2_init_13 rfl rfl ?_
  refine VG_sipush X (v := (400 : Int32)) dX2_init_14 (by decide) ?_
  refine VG_newaI X (n := 400) (by decide) (by decide) rfl rfl (by decide) q_71 (Nat.le_of_ble_eq_true rfl) (Nat.le_of_ble_eq_true rfl) dX2_init_17 (fun ad2 hx2 => ?_)
  rw [← hx2 28 (by decide)]
  refine VG_putR X (rfl : vwCl[2]? = some (RX2, TX2, 8)) uin_2 (i := 1) (by decide) rfl (by decide) rfl rfl (by decide) tyX2 tyX2_ok nmX2 (rfl : SRq 28 1 = some 30) (by decide) rfl hin rfl (tyX2_ok 1 (by decide)) rfl rfl q_120 dX2_init_19 ?_
  refine VG_aload_n X (i := 0) 0 dX2_init_22 rfl rfl ?_
  refine VG_bipush X (v := (13 : Int32)) dX2_init_23 (by decide) ?_
  refine VG_newaI X (n := 13) (by decide) (by decide) rfl rfl (by decide) q_71 (Nat.le_of_ble_eq_true rfl) (Nat.le_of_ble_eq_true rfl) dX2_init_25 (fun ad3 hx3 => ?_)
  rw [← hx3 28 (by decide)]
  refine VG_putR X (rfl : vwCl[2]? = some (RX2, TX2, 8)) uin_2 (i := 2) (by decide) rfl (by decide) rfl rfl (by decide) tyX2 tyX2_ok nmX2 (rfl : SRq 28 2 = some 31) (by decide) rfl hin rfl (tyX2_ok 2 (by decide)) rfl rfl q_121 dX2_init_27 ?_
  refine VG_aload_n X (i := 0) 0 dX2_init_30 rfl rfl ?_
  refine VG_bipush X (v := (11 : Int32)) dX2_init_31 (by decide) ?_
  refine VG_newaI X (n := 11) (by decide) (by decide) rfl rfl (by decide) q_71 (Nat.le_of_ble_eq_true rfl) (Nat.le_of_ble_eq_true rfl) dX2_init_33 (fun ad4 hx4 => ?_)
  rw [← hx4 28 (by decide)]
  refine VG_putR X (rfl : vwCl[2]? = some (RX2, TX2, 8)) uin_2 (i := 3) (by decide) rfl (by decide) rfl rfl (by decide) tyX2 tyX2_ok nmX2 (rfl : SRq 28 3 = some 32) (by decide) rfl hin rfl (tyX2_ok 3 (by decide)) rfl rfl q_122 dX2_init_35 ?_
  refine VG_aload_n X (i := 0) 0 dX2_init_38 rfl rfl ?_
  refine VG_bipush X (v := (16 : Int32)) dX2_init_39 (by decide) ?_
  refine VG_newaI X (n := 16) (by decide) (by decide) rfl rfl (by decide) q_71 (Nat.le_of_ble_eq_true rfl) (Nat.le_of_ble_eq_true rfl) dX2_init_41 (fun ad5 hx5 => ?_)
  rw [← hx5 28 (by decide)]
  refine VG_putR X (rfl : vwCl[2]? = some (RX2, TX2, 8)) uin_2 (i := 4) (by decide) rfl (by decide) rfl rfl (by decide) tyX2 tyX2_ok nmX2 (rfl : SRq 28 4 = some 33) (by decide) rfl hin rfl (tyX2_ok 4 (by decide)) rfl rfl q_123 dX2_init_43 ?_
  exact VG_ret X hr (fun k hk => (hx5 k (by omega)).trans ((hx4 k (by omega)).trans ((hx3 k (by omega)).trans ((hx2 k (by omega)).trans (hx1 k (by omega)))))) dX2_init_46 ⟨rfl, rfl, rfl⟩
def rfo_2_34 (rf : RFq) : RFq := (strf (strf (strf (strf (strf rf 34 0 35) 34 1 36) 34 2 37) 34 3 38) 34 4 39)
set_option maxRecDepth 20000 in
theorem ci_2_34 (l : Launch) {ad : Nat → Nat} {cy : Nat → ClassId} {D : va_G} {rf : RFq} {w : Mem} {wl : MemL} (hok : OKR 35 rf w wl) (hgk : GOK 35) (sz : Nat) : Met l yX2_init (TBq yX2_init cX2_init 1 none) (RG 1 5 840) (va_Pc [.ref (ad 34)] (fun U => U.heap.size = sz ∧ PG ad cy D rf 35 w wl U)) (va_Qv (QG ad 35 (fun a b c => a = rfo_2_34 rf ∧ b = w ∧ c = wl)) (BG cy D (AGc ad 35 sz) 40) (AGc ad 35 sz)) 5 840 (AGc ad 35 sz) := by
  refine MG_enter (by decide) (Nat.le_of_ble_eq_true rfl) hok hgk (fun p e s m args below meth c X hr hin => ?_)
  show VG p l e _ s m args below meth c 1 ad cy D _ _ 0 0 _ rf 35 w wl 0 [(0, .ref (ad 34))] []
  refine VG_aload_n X (i := 0) 0 dX2_init_0 rfl rfl ?_
  refine VG_objInit X q_118 q_28 q_29 dX2_init_1 (Nat.le_of_ble_eq_true rfl) (by decide) ?_
  refine VG_aload_n X (i := 0) 0 dX2_init_4 rfl rfl ?_
  refine VG_sipush X (v := (400 : Int32)) dX2_init_5 (by decide) ?_
  refine VG_newaI X (n := 400) (by decide) (by decide) rfl rfl (by decide) q_71 (Nat.le_of_ble_eq_true rfl) (Nat.le_of_ble_eq_true rfl) dX2_init_8 (fun ad1 hx1 => ?_)
  rw [← hx1 34 (by decide)]
  refine VG_putR X (rfl : vwCl[2]? = some (RX2, TX2, 8)) uin_2 (i := 0) (by decide) rfl (by decide) rfl rfl (by decide) tyX2 tyX2_ok nmX2 (rfl : SRq 34 0 = some 35) (by decide) rfl hin rfl (tyX2_ok 0 (by decide)) rfl rfl q_119 dX2_init_10 ?_
  refine VG_aload_n X (i := 0) 0 dX2_init_13 rfl rfl ?_
  refine VG_sipush X (v := (400 : Int32)) dX2_init_14 (by decide) ?_
  refine VG_newaI X (n := 400) (by decide) (by decide) rfl rfl (by decide) q_71 (Nat.le_of_ble_eq_true rfl) (Nat.le_of_ble_eq_true rfl) dX2_init_17 (fun ad2 hx2 => ?_)
  rw [← hx2 34 (by decide)]
  refine VG_putR X (rfl : vwCl[2]? = some (RX2, TX2, 8)) uin_2 (i := 1) (by decide) rfl (by decide) rfl rfl (by decide) tyX2 tyX2_ok nmX2 (rfl : SRq 34 1 = some 36) (by decide) rfl hin rfl (tyX2_ok 1 (by decide)) rfl rfl q_120 dX2_init_19 ?_
  refine VG_aload_n X (i := 0) 0 dX2_init_22 rfl rfl ?_
  refine VG_bipush X (v := (13 : Int32)) dX2_init_23 (by decide) ?_
  refine VG_newaI X (n := 13) (by decide) (by decide) rfl rfl (by decide) q_71 (Nat.le_of_ble_eq_true rfl) (Nat.le_of_ble_eq_true rfl) dX2_init_25 (fun ad3 hx3 => ?_)
  rw [← hx3 34 (by decide)]
  refine VG_putR X (rfl : vwCl[2]? = some (RX2, TX2, 8)) uin_2 (i := 2) (by decide) rfl (by decide) rfl rfl (by decide) tyX2 tyX2_ok nmX2 (rfl : SRq 34 2 = some 37) (by decide) rfl hin rfl (tyX2_ok 2 (by decide)) rfl rfl q_121 dX2_init_27 ?_
  refine VG_aload_n X (i := 0) 0 dX2_init_30 rfl rfl ?_
  refine VG_bipush X (v := (11 : Int32)) dX2_init_31 (by decide) ?_
  refine VG_newaI X (n := 11) (by decide) (by decide) rfl rfl (by decide) q_71 (Nat.le_of_ble_eq_true rfl) (Nat.le_of_ble_eq_true rfl) dX2_init_33 (fun ad4 hx4 => ?_)
  rw [← hx4 34 (by decide)]
  refine VG_putR X (rfl : vwCl[2]? = some (RX2, TX2, 8)) uin_2 (i := 3) (by decide) rfl (by decide) rfl rfl (by decide) tyX2 tyX2_ok nmX2 (rfl : SRq 34 3 = some 38) (by decide) rfl hin rfl (tyX2_ok 3 (by decide)) rfl rfl q_122 dX2_init_35 ?_
  refine VG_aload_n X (i := 0) 0 dX2_init_38 rfl rfl ?_
  refine VG_bipush X (v := (16 : Int32)) dX2_init_39 (by decide) ?_
  refine VG_newaI X (n := 16) (by decide) (by decide) rfl rfl (by decide) q_71 (Nat.le_of_ble_eq_true rfl) (Nat.le_of_ble_eq_true rfl) dX2_init_41 (fun ad5 hx5 => ?_)
  rw [← hx5 34 (by decide)]
  refine VG_putR X (rfl : vwCl[2]? = some (RX2, TX2, 8)) uin_2 (i := 4) (by decide) rfl (by decide) rfl rfl (by decide) tyX2 tyX2_ok nmX2 (rfl : SRq 34 4 = some 39) (by decide) rfl hin rfl (tyX2_ok 4 (by decide)) rfl rfl q_123 dX2_init_43 ?_
  exact VG_ret X hr (fun k hk => (hx5 k (by omega)).trans ((hx4 k (by omega)).trans ((hx3 k (by omega)).trans ((hx2 k (by omega)).trans (hx1 k (by omega)))))) dX2_init_46 ⟨rfl, rfl, rfl⟩
theorem mfi_4 : MFI yX4_init cX4_init 1 0 := ⟨q_149, q_148, q_7, rfl, by decide⟩
def rfo_4_41 (rf : RFq) : RFq := (strf (strf (strf (strf (strf (strf rf 41 0 42) 41 1 43) 41 2 44) 41 3 45) 41 4 46) 41 5 47)
set_option maxRecDepth 20000 in
theorem ci_4_41 (l : Launch) {ad : Nat → Nat} {cy : Nat → ClassId} {D : va_G} {rf : RFq} {w : Mem} {wl : MemL} (hok : OKR 42 rf w wl) (hgk : GOK 42) (sz : Nat) : Met l yX4_init (TBq yX4_init cX4_init 1 none) (RG 1 6 46) (va_Pc [.ref (ad 41)] (fun U => U.heap.size = sz ∧ PG ad cy D rf 42 w wl U)) (va_Qv (QG ad 42 (fun a b c => a = rfo_4_41 rf ∧ b = w ∧ c = wl)) (BG cy D (AGc ad 42 sz) 48) (AGc ad 42 sz)) 6 46 (AGc ad 42 sz) := by
  refine MG_enter (by decide) (Nat.le_of_ble_eq_true rfl) hok hgk (fun p e s m args below meth c X hr hin => ?_)
  show VG p l e _ s m args below meth c 1 ad cy D _ _ 0 0 _ rf 42 w wl 0 [(0, .ref (ad 41))] []
  refine VG_aload_n X (i := 0) 0 dX4_init_0 rfl rfl ?_
  refine VG_objInit X q_150 q_28 q_29 dX4_init_1 (Nat.le_of_ble_eq_true rfl) (by decide) ?_
  refine VG_aload_n X (i := 0) 0 dX4_init_4 rfl rfl ?_
  refine VG_bipush X (v := (8 : Int32)) dX4_init_5 (by decide) ?_
  refine VG_newaI X (n := 8) (by decide) (by decide) rfl rfl (by decide) q_71 (Nat.le_of_ble_eq_true rfl) (Nat.le_of_ble_eq_true rfl) dX4_init_7 (fun ad1 hx1 => ?_)
  rw [← hx1 41 (by decide)]
  refine VG_putR X (rfl : vwCl[4]? = some (RX4, TX4, 8)) uin_4 (i := 0) (by decide) rfl (by decide) rfl rfl (by decide) tyX4 tyX4_ok nmX4 (rfl : SRq 41 0 = some 42) (by decide) rfl hin rfl (tyX4_ok 0 (by decide)) rfl rfl q_151 dX4_init_9 ?_
  refine VG_aload_n X (i := 0) 0 dX4_init_12 rfl rfl ?_
  refine VG_bipush X (v := (8 : Int32)) dX4_init_13 (by decide) ?_
  refine VG_newaI X (n := 8) (by decide) (by decide) rfl rfl (by decide) q_71 (Nat.le_of_ble_eq_true rfl) (Nat.le_of_ble_eq_true rfl) dX4_init_15 (fun ad2 hx2 => ?_)
  rw [← hx2 41 (by decide)]
  refine VG_putR X (rfl : vwCl[4]? = some (RX4, TX4, 8)) uin_4 (i := 1) (by decide) rfl (by decide) rfl rfl (by decide) tyX4 tyX4_ok nmX4 (rfl : SRq 41 1 = some 43) (by decide) rfl hin rfl (tyX4_ok 1 (by decide)) rfl rfl q_154 dX4_init_17 ?_
  refine VG_aload_n X (i := 0) 0 dX4_init_20 rfl rfl ?_
  refine VG_bipush X (v := (8 : Int32)) dX4_init_21 (by decide) ?_
  refine VG_newaI X (n := 8) (by decide) (by decide) rfl rfl (by decide) q_71 (Nat.le_of_ble_eq_true rfl) (Nat.le_of_ble_eq_true rfl) dX4_init_23 (fun ad3 hx3 => ?_)
  rw [← hx3 41 (by decide)]
  refine VG_putR X (rfl : vwCl[4]? = some (RX4, TX4, 8)) uin_4 (i := 2) (by decide) rfl (by decide) rfl rfl (by decide) tyX4 tyX4_ok nmX4 (rfl : SRq 41 2 = some 44) (by decide) rfl hin rfl (tyX4_ok 2 (by decide)) rfl rfl q_157 dX4_init_25 ?_
  refine VG_aload_n X (i := 0) 0 dX4_init_28 rfl rfl ?_
  refine VG_bipush X (v := (8 : Int32)) dX4_init_29 (by decide) ?_
  refine VG_newaI X (n := 8) (by decide) (by decide) rfl rfl (by decide) q_71 (Nat.le_of_ble_eq_true rfl) (Nat.le_of_ble_eq_true rfl) dX4_init_31 (fun ad4 hx4 => ?_)
  rw [← hx4 41 (by decide)]
  refine VG_putR X (rfl : vwCl[4]? = some (RX4, TX4, 8)) uin_4 (i := 3) (by decide) rfl (by decide) rfl rfl (by decide) tyX4 tyX4_ok nmX4 (rfl : SRq 41 3 = some 45) (by decide) rfl hin rfl (tyX4_ok 3 (by decide)) rfl rfl q_159 dX4_init_33 ?_
  refine VG_aload_n X (i := 0) 0 dX4_init_36 rfl rfl ?_
  refine VG_bipush X (v := (7 : Int32)) dX4_init_37 (by decide) ?_
  refine VG_newaI X (n := 7) (by decide) (by decide) rfl rfl (by decide) q_71 (Nat.le_of_ble_eq_true rfl) (Nat.le_of_ble_eq_true rfl) dX4_init_39 (fun ad5 hx5 => ?_)
  rw [← hx5 41 (by decide)]
  refine VG_putR X (rfl : vwCl[4]? = some (RX4, TX4, 8)) uin_4 (i := 4) (by decide) rfl (by decide) rfl rfl (by decide) tyX4 tyX4_ok nmX4 (rfl : SRq 41 4 = some 46) (by decide) rfl hin rfl (tyX4_ok 4 (by decide)) rfl rfl q_161 dX4_init_41 ?_
  refine VG_aload_n X (i := 0) 0 dX4_init_44 rfl rfl ?_
  refine VG_bipush X (v := (7 : Int32)) dX4_init_45 (by decide) ?_
  refine VG_newaI X (n := 7) (by decide) (by decide) rfl rfl (by decide) q_71 (Nat.le_of_ble_eq_true rfl) (Nat.le_of_ble_eq_true rfl) dX4_init_47 (fun ad6 hx6 => ?_)
  rw [← hx6 41 (by decide)]
  refine VG_putR X (rfl : vwCl[4]? = some (RX4, TX4, 8)) uin_4 (i := 5) (by decide) rfl (by decide) rfl rfl (by decide) tyX4 tyX4_ok nmX4 (rfl : SRq 41 5 = some 47) (by decide) rfl hin rfl (tyX4_ok 5 (by decide)) rfl rfl q_163 dX4_init_49 ?_
  exact VG_ret X hr (fun k hk => (hx6 k (by omega)).trans ((hx5 k (by omega)).trans ((hx4 k (by omega)).trans ((hx3 k (by omega)).trans ((hx2 k (by omega)).trans (hx1 k (by omega))))))) dX4_init_52 ⟨rfl, rfl, rfl⟩
theorem mfi_8 : MFI yX8_init cX8_init 1 0 := ⟨q_111, q_110, q_5, rfl, by decide⟩
def rfo_8_9 (rf : RFq) : RFq := (strf (rfo_4_41 (strf (strf (rfo_2_34 (strf (rfo_2_28 (strf (rfo_2_22 (strf (rfo_2_16 (strf (rfo_2_10 rf) 9 0 10)) 9 1 16)) 9 2 22)) 9 3 28)) 9 4 34) 9 5 40)) 9 6 41)
set_option maxRecDepth 20000 in
theorem ci_8_9 (l : Launch) {ad : Nat → Nat} {cy : Nat → ClassId} {D : va_G} {rf : RFq} {w : Mem} {wl : MemL} (hok : OKR 10 rf w wl) (hgk : GOK 10) (sz : Nat) : Met l yX8_init (TBq yX8_init cX8_init 1 none) (RG 2 38 4299) (va_Pc [.ref (ad 9)] (fun U => U.heap.size = sz ∧ PG ad cy D rf 10 w wl U)) (va_Qv (QG ad 10 (fun a b c => a = rfo_8_9 rf ∧ b = w ∧ c = wl)) (BG cy D (AGc ad 10 sz) 48) (AGc ad 10 sz)) 38 4299 (AGc ad 10 sz) := by
  refine MG_enter (by decide) (Nat.le_of_ble_eq_true rfl) hok hgk (fun p e s m args below meth c X hr hin => ?_)
  show VG p l e _ s m args below meth c 1 ad cy D _ _ 0 0 _ rf 10 w wl 0 [(0, .ref (ad 9))] []
  refine VG_aload_n X (i := 0) 0 dX8_init_0 rfl rfl ?_
  refine VG_objInit X q_112 q_28 q_29 dX8_init_1 (Nat.le_of_ble_eq_true rfl) (by decide) ?_
  refine VG_aload_n X (i := 0) 0 dX8_init_4 rfl rfl ?_
  refine VG_new X (rfl : vwCl[2]? = some (RX2, TX2, 8)) uin_2 tyX2 tyX2_ok q_113 q_114 q_6 rfl (by decide) rfl (by decide +kernel) (Nat.le_of_ble_eq_true rfl) (Nat.le_of_ble_eq_true rfl) dX8_init_5 (fun ad1 hx1 => ?_)
  rw [← hx1 9 (by decide)]
  refine VG_dup X dX8_init_8 rfl ?_
  refine VG_call X (k := 10) (As := []) (st1 := [.ref (ad1 10), .ref (ad1 9)]) mfi_2 (Or.inr ⟨_, q_115⟩) (fun hok hgk sz => ci_2_10 l hok hgk sz) (GOKx 16 (by decide)) rfl ⟨rfl, rfl⟩ ⟨Nat.le_of_ble_eq_true rfl, Nat.le_of_ble_eq_true rfl⟩ ⟨(Nat.le_of_ble_eq_true rfl), (Nat.le_of_ble_eq_true rfl)⟩ rfl (Nat.le_of_ble_eq_true rfl) dX8_init_9 (fun ad2 rf2 w2 wl2 hx2 hq => ?_)
  obtain ⟨e1, e2, e3⟩ := hq
  subst e1 e2 e3
  rw [← hx2 9 (by decide), ← hx2 10 (by decide)]
  refine VG_putR X (rfl : vwCl[8]? = some (RX8, TX8, 18)) uin_8 (i := 0) (by decide) rfl (by decide) rfl rfl (by decide) tyX8 tyX8_ok nmX8 (rfl : SRq 9 0 = some 10) (by decide) rfl hin rfl (tyX8_ok 0 (by decide)) rfl rfl q_189 dX8_init_12 ?_
  refine VG_aload_n X (i := 0) 0 dX8_init_15 rfl rfl ?_
  refine VG_new X (rfl : vwCl[2]? = some (RX2, TX2, 8)) uin_2 tyX2 tyX2_ok q_113 q_114 q_6 rfl (by decide) rfl (by decide +kernel) (Nat.le_of_ble_eq_true rfl) (Nat.le_of_ble_eq_true rfl) dX8_init_16 (fun ad3 hx3 => ?_)
  rw [← hx3 9 (by decide)]
  refine VG_dup X dX8_init_19 rfl ?_
  refine VG_call X (k := 16) (As := []) (st1 := [.ref (ad3 16), .ref (ad3 9)]) mfi_2 (Or.inr ⟨_, q_115⟩) (fun hok hgk sz => ci_2_16 l hok hgk sz) (GOKx 22 (by decide)) rfl ⟨rfl, rfl⟩ ⟨Nat.le_of_ble_eq_true rfl, Nat.le_of_ble_eq_true rfl⟩ ⟨(Nat.le_of_ble_eq_true rfl), (Nat.le_of_ble_eq_true rfl)⟩ rfl (Nat.le_of_ble_eq_true rfl) dX8_init_20 (fun ad4 rf4 w4 wl4 hx4 hq => ?_)
  obtain ⟨e1, e2, e3⟩ := hq
  subst e1 e2 e3
  rw [← hx4 9 (by decide), ← hx4 16 (by decide)]
  refine VG_putR X (rfl : vwCl[8]? = some (RX8, TX8, 18)) uin_8 (i := 1) (by decide) rfl (by decide) rfl rfl (by decide) tyX8 tyX8_ok nmX8 (rfl : SRq 9 1 = some 16) (by decide) rfl hin rfl (tyX8_ok 1 (by decide)) rfl rfl q_192 dX8_init_23 ?_
  refine VG_aload_n X (i := 0) 0 dX8_init_26 rfl rfl ?_
  refine VG_new X (rfl : vwCl[2]? = some (RX2, TX2, 8)) uin_2 tyX2 tyX2_ok q_113 q_114 q_6 rfl (by decide) rfl (by decide +kernel) (Nat.le_of_ble_eq_true rfl) (Nat.le_of_ble_eq_true rfl) dX8_init_27 (fun ad5 hx5 => ?_)
  rw [← hx5 9 (by decide)]
  refine VG_dup X dX8_init_30 rfl ?_
  refine VG_call X (k := 22) (As := []) (st1 := [.ref (ad5 22), .ref (ad5 9)]) mfi_2 (Or.inr ⟨_, q_115⟩) (fun hok hgk sz => ci_2_22 l hok hgk sz) (GOKx 28 (by decide)) rfl ⟨rfl, rfl⟩ ⟨Nat.le_of_ble_eq_true rfl, Nat.le_of_ble_eq_true rfl⟩ ⟨(Nat.le_of_ble_eq_true rfl), (Nat.le_of_ble_eq_true rfl)⟩ rfl (Nat.le_of_ble_eq_true rfl) dX8_init_31 (fun ad6 rf6 w6 wl6 hx6 hq => ?_)
  obtain ⟨e1, e2, e3⟩ := hq
  subst e1 e2 e3
  rw [← hx6 9 (by decide), ← hx6 22 (by decide)]
  refine VG_putR X (rfl : vwCl[8]? = some (RX8, TX8, 18)) uin_8 (i := 2) (by decide) rfl (by decide) rfl rfl (by decide) tyX8 tyX8_ok nmX8 (rfl : SRq 9 2 = some 22) (by decide) rfl hin rfl (tyX8_ok 2 (by decide)) rfl rfl q_195 dX8_init_34 ?_
  refine VG_aload_n X (i := 0) 0 dX8_init_37 rfl rfl ?_
  refine VG_new X (rfl : vwCl[2]? = some (RX2, TX2, 8)) uin_2 tyX2 tyX2_ok q_113 q_114 q_6 rfl (by decide) rfl (by decide +kernel) (Nat.le_of_ble_eq_true rfl) (Nat.le_of_ble_eq_true rfl) dX8_init_38 (fun ad7 hx7 => ?_)
  rw [← hx7 9 (by decide)]
  refine VG_dup X dX8_init_41 rfl ?_
  refine VG_call X (k := 28) (As := []) (st1 := [.ref (ad7 28), .ref (ad7 9)]) mfi_2 (Or.inr ⟨_, q_115⟩) (fun hok hgk sz => ci_2_28 l hok hgk sz) (GOKx 34 (by decide)) rfl ⟨rfl, rfl⟩ ⟨Nat.le_of_ble_eq_true rfl, Nat.le_of_ble_eq_true rfl⟩ ⟨(Nat.le_of_ble_eq_true rfl), (Nat.le_of_ble_eq_true rfl)⟩ rfl (Nat.le_of_ble_eq_true rfl) dX8_init_42 (fun ad8 rf8 w8 wl8 hx8 hq => ?_)
  obtain ⟨e1, e2, e3⟩ := hq
  subst e1 e2 e3
  rw [← hx8 9 (by decide), ← hx8 28 (by decide)]
  refine VG_putR X (rfl : vwCl[8]? = some (RX8, TX8, 18)) uin_8 (i := 3) (by decide) rfl (by decide) rfl rfl (by decide) tyX8 tyX8_ok nmX8 (rfl : SRq 9 3 = some 28) (by decide) rfl hin rfl (tyX8_ok 3 (by decide)) rfl rfl q_198 dX8_init_45 ?_
  refine VG_aload_n X (i := 0) 0 dX8_init_48 rfl rfl ?_
  refine VG_new X (rfl : vwCl[2]? = some (RX2, TX2, 8)) uin_2 tyX2 tyX2_ok q_113 q_114 q_6 rfl (by decide) rfl (by decide +kernel) (Nat.le_of_ble_eq_true rfl) (Nat.le_of_ble_eq_true rfl) dX8_init_49 (fun ad9 hx9 => ?_)
  rw [← hx9 9 (by decide)]
  refine VG_dup X dX8_init_52 rfl ?_
  refine VG_call X (k := 34) (As := []) (st1 := [.ref (ad9 34), .ref (ad9 9)]) mfi_2 (Or.inr ⟨_, q_115⟩) (fun hok hgk sz => ci_2_34 l hok hgk sz) (GOKx 40 (by decide)) rfl ⟨rfl, rfl⟩ ⟨Nat.le_of_ble_eq_true rfl, Nat.le_of_ble_eq_true rfl⟩ ⟨(Nat.le_of_ble_eq_true rfl), (Nat.le_of_ble_eq_true rfl)⟩ rfl (Nat.le_of_ble_eq_true rfl) dX8_init_53 (fun ad10 rf10 w10 wl10 hx10 hq => ?_)
  obtain ⟨e1, e2, e3⟩ := hq
  subst e1 e2 e3
  rw [← hx10 9 (by decide), ← hx10 34 (by decide)]
  refine VG_putR X (rfl : vwCl[8]? = some (RX8, TX8, 18)) uin_8 (i := 4) (by decide) rfl (by decide) rfl rfl (by decide) tyX8 tyX8_ok nmX8 (rfl : SRq 9 4 = some 34) (by decide) rfl hin rfl (tyX8_ok 4 (by decide)) rfl rfl q_201 dX8_init_56 ?_
  refine VG_aload_n X (i := 0) 0 dX8_init_59 rfl rfl ?_
  refine VG_iconst X (v := (5 : Int32)) dX8_init_60 (by decide) ?_
  refine VG_newaI X (n := 5) (by decide) (by decide) rfl rfl (by decide) q_71 (Nat.le_of_ble_eq_true rfl) (Nat.le_of_ble_eq_true rfl) dX8_init_61 (fun ad11 hx11 => ?_)
  rw [← hx11 9 (by decide)]
  refine VG_putR X (rfl : vwCl[8]? = some (RX8, TX8, 18)) uin_8 (i := 5) (by decide) rfl (by decide) rfl rfl (by decide) tyX8 tyX8_ok nmX8 (rfl : SRq 9 5 = some 40) (by decide) rfl hin rfl (tyX8_ok 5 (by decide)) rfl rfl q_204 dX8_init_63 ?_
  refine VG_aload_n X (i := 0) 0 dX8_init_66 rfl rfl ?_
  refine VG_new X (rfl : vwCl[4]? = some (RX4, TX4, 8)) uin_4 tyX4 tyX4_ok q_145 q_146 q_7 rfl (by decide) rfl (by decide +kernel) (Nat.le_of_ble_eq_true rfl) (Nat.le_of_ble_eq_true rfl) dX8_init_67 (fun ad12 hx12 => ?_)
  rw [← hx12 9 (by decide)]
  refine VG_dup X dX8_init_70 rfl ?_
  refine VG_call X (k := 41) (As := []) (st1 := [.ref (ad12 41), .ref (ad12 9)]) mfi_4 (Or.inr ⟨_, q_147⟩) (fun hok hgk sz => ci_4_41 l hok hgk sz) (GOKx 48 (by decide)) rfl ⟨rfl, rfl⟩ ⟨Nat.le_of_ble_eq_true rfl, Nat.le_of_ble_eq_true rfl⟩ ⟨(Nat.le_of_ble_eq_true rfl), (Nat.le_of_ble_eq_true rfl)⟩ rfl (Nat.le_of_ble_eq_true rfl) dX8_init_71 (fun ad13 rf13 w13 wl13 hx13 hq => ?_)
  obtain ⟨e1, e2, e3⟩ := hq
  subst e1 e2 e3
  rw [← hx13 9 (by decide), ← hx13 41 (by decide)]
  refine VG_putR X (rfl : vwCl[8]? = some (RX8, TX8, 18)) uin_8 (i := 6) (by decide) rfl (by decide) rfl rfl (by decide) tyX8 tyX8_ok nmX8 (rfl : SRq 9 6 = some 41) (by decide) rfl hin rfl (tyX8_ok 6 (by decide)) rfl rfl q_207 dX8_init_74 ?_
  exact VG_ret X hr (fun k hk => (hx13 k (by omega)).trans ((hx12 k (by omega)).trans ((hx11 k (by omega)).trans ((hx10 k (by omega)).trans ((hx9 k (by omega)).trans ((hx8 k (by omega)).trans ((hx7 k (by omega)).trans ((hx6 k (by omega)).trans ((hx5 k (by omega)).trans ((hx4 k (by omega)).trans ((hx3 k (by omega)).trans ((hx2 k (by omega)).trans (hx1 k (by omega)))))))))))))) dX8_init_77 ⟨rfl, rfl, rfl⟩
def rfo_2_49 (rf : RFq) : RFq := (strf (strf (strf (strf (strf rf 49 0 50) 49 1 51) 49 2 52) 49 3 53) 49 4 54)
set_option maxRecDepth 20000 in
theorem ci_2_49 (l : Launch) {ad : Nat → Nat} {cy : Nat → ClassId} {D : va_G} {rf : RFq} {w : Mem} {wl : MemL} (hok : OKR 50 rf w wl) (hgk : GOK 50) (sz : Nat) : Met l yX2_init (TBq yX2_init cX2_init 1 none) (RG 1 5 840) (va_Pc [.ref (ad 49)] (fun U => U.heap.size = sz ∧ PG ad cy D rf 50 w wl U)) (va_Qv (QG ad 50 (fun a b c => a = rfo_2_49 rf ∧ b = w ∧ c = wl)) (BG cy D (AGc ad 50 sz) 55) (AGc ad 50 sz)) 5 840 (AGc ad 50 sz) := by
  refine MG_enter (by decide) (Nat.le_of_ble_eq_true rfl) hok hgk (fun p e s m args below meth c X hr hin => ?_)
  show VG p l e _ s m args below meth c 1 ad cy D _ _ 0 0 _ rf 50 w wl 0 [(0, .ref (ad 49))] []
  refine VG_aload_n X (i := 0) 0 dX2_init_0 rfl rfl ?_
  refine VG_objInit X q_118 q_28 q_29 dX2_init_1 (Nat.le_of_ble_eq_true rfl) (by decide) ?_
  refine VG_aload_n X (i := 0) 0 dX2_init_4 rfl rfl ?_
  refine VG_sipush X (v := (400 : Int32)) dX2_init_5 (by decide) ?_
  refine VG_newaI X (n := 400) (by decide) (by decide) rfl rfl (by decide) q_71 (Nat.le_of_ble_eq_true rfl) (Nat.le_of_ble_eq_true rfl) dX2_init_8 (fun ad1 hx1 => ?_)
  rw [← hx1 49 (by decide)]
  refine VG_putR X (rfl : vwCl[2]? = some (RX2, TX2, 8)) uin_2 (i := 0) (by decide) rfl (by decide) rfl rfl (by decide) tyX2 tyX2_ok nmX2 (rfl : SRq 49 0 = some 50) (by decide) rfl hin rfl (tyX2_ok 0 (by decide)) rfl rfl q_119 dX2_init_10 ?_
  refine VG_aload_n X (i := 0) 0 dX2_init_13 rfl rfl ?_
  refine VG_sipush X (v := (400 : Int32)) dX2_init_14 (by decide) ?_
  refine VG_newaI X (n := 400) (by decide) (by decide) rfl rfl (by decide) q_71 (Nat.le_of_ble_eq_true rfl) (Nat.le_of_ble_eq_true rfl) dX2_init_17 (fun ad2 hx2 => ?_)
  rw [← hx2 49 (by decide)]
  refine VG_putR X (rfl : vwCl[2]? = some (RX2, TX2, 8)) uin_2 (i := 1) (by decide) rfl (by decide) rfl rfl (by decide) tyX2 tyX2_ok nmX2 (rfl : SRq 49 1 = some 51) (by decide) rfl hin rfl (tyX2_ok 1 (by decide)) rfl rfl q_120 dX2_init_19 ?_
  refine VG_aload_n X (i := 0) 0 dX2_init_22 rfl rfl ?_
  refine VG_bipush X (v := (13 : Int32)) dX2_init_23 (by decide) ?_
  refine VG_newaI X (n := 13) (by decide) (by decide) rfl rfl (by decide) q_71 (Nat.le_of_ble_eq_true rfl) (Nat.le_of_ble_eq_true rfl) dX2_init_25 (fun ad3 hx3 => ?_)
  rw [← hx3 49 (by decide)]
  refine VG_putR X (rfl : vwCl[2]? = some (RX2, TX2, 8)) uin_2 (i := 2) (by decide) rfl (by decide) rfl rfl (by decide) tyX2 tyX2_ok nmX2 (rfl : SRq 49 2 = some 52) (by decide) rfl hin rfl (tyX2_ok 2 (by decide)) rfl rfl q_121 dX2_init_27 ?_
  refine VG_aload_n X (i := 0) 0 dX2_init_30 rfl rfl ?_
  refine VG_bipush X (v := (11 : Int32)) dX2_init_31 (by decide) ?_
  refine VG_newaI X (n := 11) (by decide) (by decide) rfl rfl (by decide) q_71 (Nat.le_of_ble_eq_true rfl) (Nat.le_of_ble_eq_true rfl) dX2_init_33 (fun ad4 hx4 => ?_)
  rw [← hx4 49 (by decide)]
  refine VG_putR X (rfl : vwCl[2]? = some (RX2, TX2, 8)) uin_2 (i := 3) (by decide) rfl (by decide) rfl rfl (by decide) tyX2 tyX2_ok nmX2 (rfl : SRq 49 3 = some 53) (by decide) rfl hin rfl (tyX2_ok 3 (by decide)) rfl rfl q_122 dX2_init_35 ?_
  refine VG_aload_n X (i := 0) 0 dX2_init_38 rfl rfl ?_
  refine VG_bipush X (v := (16 : Int32)) dX2_init_39 (by decide) ?_
  refine VG_newaI X (n := 16) (by decide) (by decide) rfl rfl (by decide) q_71 (Nat.le_of_ble_eq_true rfl) (Nat.le_of_ble_eq_true rfl) dX2_init_41 (fun ad5 hx5 => ?_)
  rw [← hx5 49 (by decide)]
  refine VG_putR X (rfl : vwCl[2]? = some (RX2, TX2, 8)) uin_2 (i := 4) (by decide) rfl (by decide) rfl rfl (by decide) tyX2 tyX2_ok nmX2 (rfl : SRq 49 4 = some 54) (by decide) rfl hin rfl (tyX2_ok 4 (by decide)) rfl rfl q_123 dX2_init_43 ?_
  exact VG_ret X hr (fun k hk => (hx5 k (by omega)).trans ((hx4 k (by omega)).trans ((hx3 k (by omega)).trans ((hx2 k (by omega)).trans (hx1 k (by omega)))))) dX2_init_46 ⟨rfl, rfl, rfl⟩
def rfo_2_55 (rf : RFq) : RFq := (strf (strf (strf (strf (strf rf 55 0 56) 55 1 57) 55 2 58) 55 3 59) 55 4 60)
set_option maxRecDepth 20000 in
theorem ci_2_55 (l : Launch) {ad : Nat → Nat} {cy : Nat → ClassId} {D : va_G} {rf : RFq} {w : Mem} {wl : MemL} (hok : OKR 56 rf w wl) (hgk : GOK 56) (sz : Nat) : Met l yX2_init (TBq yX2_init cX2_init 1 none) (RG 1 5 840) (va_Pc [.ref (ad 55)] (fun U => U.heap.size = sz ∧ PG ad cy D rf 56 w wl U)) (va_Qv (QG ad 56 (fun a b c => a = rfo_2_55 rf ∧ b = w ∧ c = wl)) (BG cy D (AGc ad 56 sz) 61) (AGc ad 56 sz)) 5 840 (AGc ad 56 sz) := by
  refine MG_enter (by decide) (Nat.le_of_ble_eq_true rfl) hok hgk (fun p e s m args below meth c X hr hin => ?_)
  show VG p l e _ s m args below meth c 1 ad cy D _ _ 0 0 _ rf 56 w wl 0 [(0, .ref (ad 55))] []
  refine VG_aload_n X (i := 0) 0 dX2_init_0 rfl rfl ?_
  refine VG_objInit X q_118 q_28 q_29 dX2_init_1 (Nat.le_of_ble_eq_true rfl) (by decide) ?_
  refine VG_aload_n X (i := 0) 0 dX2_init_4 rfl rfl ?_
  refine VG_sipush X (v := (400 : Int32)) dX2_init_5 (by decide) ?_
  refine VG_newaI X (n := 400) (by decide) (by decide) rfl rfl (by decide) q_71 (Nat.le_of_ble_eq_true rfl) (Nat.le_of_ble_eq_true rfl) dX2_init_8 (fun ad1 hx1 => ?_)
  rw [← hx1 55 (by decide)]
  refine VG_putR X (rfl : vwCl[2]? = some (RX2, TX2, 8)) uin_2 (i := 0) (by decide) rfl (by decide) rfl rfl (by decide) tyX2 tyX2_ok nmX2 (rfl : SRq 55 0 = some 56) (by decide) rfl hin rfl (tyX2_ok 0 (by decide)) rfl rfl q_119 dX2_init_10 ?_
  refine VG_aload_n X (i := 0) 0 dX2_init_13 rfl rfl ?_
  refine VG_sipush X (v := (400 : Int32)) dX2_init_14 (by decide) ?_
  refine VG_newaI X (n := 400) (by decide) (by decide) rfl rfl (by decide) q_71 (Nat.le_of_ble_eq_true rfl) (Nat.le_of_ble_eq_true rfl) dX2_init_17 (fun ad2 hx2 => ?_)
  rw [← hx2 55 (by decide)]
  refine VG_putR X (rfl : vwCl[2]? = some (RX2, TX2, 8)) uin_2 (i := 1) (by decide) rfl (by decide) rfl rfl (by decide) tyX2 tyX2_ok nmX2 (rfl : SRq 55 1 = some 57) (by decide) rfl hin rfl (tyX2_ok 1 (by decide)) rfl rfl q_120 dX2_init_19 ?_
  refine VG_aload_n X (i := 0) 0 dX2_init_22 rfl rfl ?_
  refine VG_bipush X (v := (13 : Int32)) dX2_init_23 (by decide) ?_
  refine VG_newaI X (n := 13) (by decide) (by decide) rfl rfl (by decide) q_71 (Nat.le_of_ble_eq_true rfl) (Nat.le_of_ble_eq_true rfl) dX2_init_25 (fun ad3 hx3 => ?_)
  rw [← hx3 55 (by decide)]
  refine VG_putR X (rfl : vwCl[2]? = some (RX2, TX2, 8)) uin_2 (i := 2) (by decide) rfl (by decide) rfl rfl (by decide) tyX2 tyX2_ok nmX2 (rfl : SRq 55 2 = some 58) (by decide) rfl hin rfl (tyX2_ok 2 (by decide)) rfl rfl q_121 dX2_init_27 ?_
  refine VG_aload_n X (i := 0) 0 dX2_init_30 rfl rfl ?_
  refine VG_bipush X (v := (11 : Int32)) dX2_init_31 (by decide) ?_
  refine VG_newaI X (n := 11) (by decide) (by decide) rfl rfl (by decide) q_71 (Nat.le_of_ble_eq_true rfl) (Nat.le_of_ble_eq_true rfl) dX2_init_33 (fun ad4 hx4 => ?_)
  rw [← hx4 55 (by decide)]
  refine VG_putR X (rfl : vwCl[2]? = some (RX2, TX2, 8)) uin_2 (i := 3) (by decide) rfl (by decide) rfl rfl (by decide) tyX2 tyX2_ok nmX2 (rfl : SRq 55 3 = some 59) (by decide) rfl hin rfl (tyX2_ok 3 (by decide)) rfl rfl q_122 dX2_init_35 ?_
  refine VG_aload_n X (i := 0) 0 dX2_init_38 rfl rfl ?_
  refine VG_bipush X (v := (16 : Int32)) dX2_init_39 (by decide) ?_
  refine VG_newaI X (n := 16) (by decide) (by decide) rfl rfl (by decide) q_71 (Nat.le_of_ble_eq_true rfl) (Nat.le_of_ble_eq_true rfl) dX2_init_41 (fun ad5 hx5 => ?_)
  rw [← hx5 55 (by decide)]
  refine VG_putR X (rfl : vwCl[2]? = some (RX2, TX2, 8)) uin_2 (i := 4) (by decide) rfl (by decide) rfl rfl (by decide) tyX2 tyX2_ok nmX2 (rfl : SRq 55 4 = some 60) (by decide) rfl hin rfl (tyX2_ok 4 (by decide)) rfl rfl q_123 dX2_init_43 ?_
  exact VG_ret X hr (fun k hk => (hx5 k (by omega)).trans ((hx4 k (by omega)).trans ((hx3 k (by omega)).trans ((hx2 k (by omega)).trans (hx1 k (by omega)))))) dX2_init_46 ⟨rfl, rfl, rfl⟩
def rfo_2_61 (rf : RFq) : RFq := (strf (strf (strf (strf (strf rf 61 0 62) 61 1 63) 61 2 64) 61 3 65) 61 4 66)
set_option maxRecDepth 20000 in
theorem ci_2_61 (l : Launch) {ad : Nat → Nat} {cy : Nat → ClassId} {D : va_G} {rf : RFq} {w : Mem} {wl : MemL} (hok : OKR 62 rf w wl) (hgk : GOK 62) (sz : Nat) : Met l yX2_init (TBq yX2_init cX2_init 1 none) (RG 1 5 840) (va_Pc [.ref (ad 61)] (fun U => U.heap.size = sz ∧ PG ad cy D rf 62 w wl U)) (va_Qv (QG ad 62 (fun a b c => a = rfo_2_61 rf ∧ b = w ∧ c = wl)) (BG cy D (AGc ad 62 sz) 67) (AGc ad 62 sz)) 5 840 (AGc ad 62 sz) := by
  refine MG_enter (by decide) (Nat.le_of_ble_eq_true rfl) hok hgk (fun p e s m args below meth c X hr hin => ?_)
  show VG p l e _ s m args below meth c 1 ad cy D _ _ 0 0 _ rf 62 w wl 0 [(0, .ref (ad 61))] []
  refine VG_aload_n X (i := 0) 0 dX2_init_0 rfl rfl ?_
  refine VG_objInit X q_118 q_28 q_29 dX2_init_1 (Nat.le_of_ble_eq_true rfl) (by decide) ?_
  refine VG_aload_n X (i := 0) 0 dX2_init_4 rfl rfl ?_
  refine VG_sipush X (v := (400 : Int32)) dX2_init_5 (by decide) ?_
  refine VG_newaI X (n := 400) (by decide) (by decide) rfl rfl (by decide) q_71 (Nat.le_of_ble_eq_true rfl) (Nat.le_of_ble_eq_true rfl) dX2_init_8 (fun ad1 hx1 => ?_)
  rw [← hx1 61 (by decide)]
  refine VG_putR X (rfl : vwCl[2]? = some (RX2, TX2, 8)) uin_2 (i := 0) (by decide) rfl (by decide) rfl rfl (by decide) tyX2 tyX2_ok nmX2 (rfl : SRq 61 0 = some 62) (by decide) rfl hin rfl (tyX2_ok 0 (by decide)) rfl rfl q_119 dX2_init_10 ?_
  refine VG_aload_n X (i := 0) 0 dX2_init_13 rfl rfl ?_
  refine VG_sipush X (v := (400 : Int32)) dX2_init_14 (by decide) ?_
  refine VG_newaI X (n := 400) (by decide) (by decide) rfl rfl (by decide) q_71 (Nat.le_of_ble_eq_true rfl) (Nat.le_of_ble_eq_true rfl) dX2_init_17 (fun ad2 hx2 => ?_)
  rw [← hx2 61 (by decide)]
  refine VG_putR X (rfl : vwCl[2]? = some (RX2, TX2, 8)) uin_2 (i := 1) (by decide) rfl (by decide) rfl rfl (by decide) tyX2 tyX2_ok nmX2 (rfl : SRq 61 1 = some 63) (by decide) rfl hin rfl (tyX2_ok 1 (by decide)) rfl rfl q_120 dX2_init_19 ?_
  refine VG_aload_n X (i := 0) 0 dX2_init_22 rfl rfl ?_
  refine VG_bipush X (v := (13 : Int32)) dX2_init_23 (by decide) ?_
  refine VG_newaI X (n := 13) (by decide) (by decide) rfl rfl (by decide) q_71 (Nat.le_of_ble_eq_true rfl) (Nat.le_of_ble_eq_true rfl) dX2_init_25 (fun ad3 hx3 => ?_)
  rw [← hx3 61 (by decide)]
  refine VG_putR X (rfl : vwCl[2]? = some (RX2, TX2, 8)) uin_2 (i := 2) (by decide) rfl (by decide) rfl rfl (by decide) tyX2 tyX2_ok nmX2 (rfl : SRq 61 2 = some 64) (by decide) rfl hin rfl (tyX2_ok 2 (by decide)) rfl rfl q_121 dX2_init_27 ?_
  refine VG_aload_n X (i := 0) 0 dX2_init_30 rfl rfl ?_
  refine VG_bipush X (v := (11 : Int32)) dX2_init_31 (by decide) ?_
  refine VG_newaI X (n := 11) (by decide) (by decide) rfl rfl (by decide) q_71 (Nat.le_of_ble_eq_true rfl) (Nat.le_of_ble_eq_true rfl) dX2_init_33 (fun ad4 hx4 => ?_)
  rw [← hx4 61 (by decide)]
  refine VG_putR X (rfl : vwCl[2]? = some (RX2, TX2, 8)) uin_2 (i := 3) (by decide) rfl (by decide) rfl rfl (by decide) tyX2 tyX2_ok nmX2 (rfl : SRq 61 3 = some 65) (by decide) rfl hin rfl (tyX2_ok 3 (by decide)) rfl rfl q_122 dX2_init_35 ?_
  refine VG_aload_n X (i := 0) 0 dX2_init_38 rfl rfl ?_
  refine VG_bipush X (v := (16 : Int32)) dX2_init_39 (by decide) ?_
  refine VG_newaI X (n := 16) (by decide) (by decide) rfl rfl (by decide) q_71 (Nat.le_of_ble_eq_true rfl) (Nat.le_of_ble_eq_true rfl) dX2_init_41 (fun ad5 hx5 => ?_)
  rw [← hx5 61 (by decide)]
  refine VG_putR X (rfl : vwCl[2]? = some (RX2, TX2, 8)) uin_2 (i := 4) (by decide) rfl (by decide) rfl rfl (by decide) tyX2 tyX2_ok nmX2 (rfl : SRq 61 4 = some 66) (by decide) rfl hin rfl (tyX2_ok 4 (by decide)) rfl rfl q_123 dX2_init_43 ?_
  exact VG_ret X hr (fun k hk => (hx5 k (by omega)).trans ((hx4 k (by omega)).trans ((hx3 k (by omega)).trans ((hx2 k (by omega)).trans (hx1 k (by omega)))))) dX2_init_46 ⟨rfl, rfl, rfl⟩
def rfo_2_67 (rf : RFq) : RFq := (strf (strf (strf (strf (strf rf 67 0 68) 67 1 69) 67 2 70) 67 3 71) 67 4 72)
set_option maxRecDepth 20000 in
theorem ci_2_67 (l : Launch) {ad : Nat → Nat} {cy : Nat → ClassId} {D : va_G} {rf : RFq} {w : Mem} {wl : MemL} (hok : OKR 68 rf w wl) (hgk : GOK 68) (sz : Nat) : Met l yX2_init (TBq yX2_init cX2_init 1 none) (RG 1 5 840) (va_Pc [.ref (ad 67)] (fun U => U.heap.size = sz ∧ PG ad cy D rf 68 w wl U)) (va_Qv (QG ad 68 (fun a b c => a = rfo_2_67 rf ∧ b = w ∧ c = wl)) (BG cy D (AGc ad 68 sz) 73) (AGc ad 68 sz)) 5 840 (AGc ad 68 sz) := by
  refine MG_enter (by decide) (Nat.le_of_ble_eq_true rfl) hok hgk (fun p e s m args below meth c X hr hin => ?_)
  show VG p l e _ s m args below meth c 1 ad cy D _ _ 0 0 _ rf 68 w wl 0 [(0, .ref (ad 67))] []
  refine VG_aload_n X (i := 0) 0 dX2_init_0 rfl rfl ?_
  refine VG_objInit X q_118 q_28 q_29 dX2_init_1 (Nat.le_of_ble_eq_true rfl) (by decide) ?_
  refine VG_aload_n X (i := 0) 0 dX2_init_4 rfl rfl ?_
  refine VG_sipush X (v := (400 : Int32)) dX2_init_5 (by decide) ?_
  refine VG_newaI X (n := 400) (by decide) (by decide) rfl rfl (by decide) q_71 (Nat.le_of_ble_eq_true rfl) (Nat.le_of_ble_eq_true rfl) dX2_init_8 (fun ad1 hx1 => ?_)
  rw [← hx1 67 (by decide)]
  refine VG_putR X (rfl : vwCl[2]? = some (RX2, TX2, 8)) uin_2 (i := 0) (by decide) rfl (by decide) rfl rfl (by decide) tyX2 tyX2_ok nmX2 (rfl : SRq 67 0 = some 68) (by decide) rfl hin rfl (tyX2_ok 0 (by decide)) rfl rfl q_119 dX2_init_10 ?_
  refine VG_aload_n X (i := 0) 0 dX2_init_13 rfl rfl ?_
  refine VG_sipush X (v := (400 : Int32)) dX2_init_14 (by decide) ?_
  refine VG_newaI X (n := 400) (by decide) (by decide) rfl rfl (by decide) q_71 (Nat.le_of_ble_eq_true rfl) (Nat.le_of_ble_eq_true rfl) dX2_init_17 (fun ad2 hx2 => ?_)
  rw [← hx2 67 (by decide)]
  refine VG_putR X (rfl : vwCl[2]? = some (RX2, TX2, 8)) uin_2 (i := 1) (by decide) rfl (by decide) rfl rfl (by decide) tyX2 tyX2_ok nmX2 (rfl : SRq 67 1 = some 69) (by decide) rfl hin rfl (tyX2_ok 1 (by decide)) rfl rfl q_120 dX2_init_19 ?_
  refine VG_aload_n X (i := 0) 0 dX2_init_22 rfl rfl ?_
  refine VG_bipush X (v := (13 : Int32)) dX2_init_23 (by decide) ?_
  refine VG_newaI X (n := 13) (by decide) (by decide) rfl rfl (by decide) q_71 (Nat.le_of_ble_eq_true rfl) (Nat.le_of_ble_eq_true rfl) dX2_init_25 (fun ad3 hx3 => ?_)
  rw [← hx3 67 (by decide)]
  refine VG_putR X (rfl : vwCl[2]? = some (RX2, TX2, 8)) uin_2 (i := 2) (by decide) rfl (by decide) rfl rfl (by decide) tyX2 tyX2_ok nmX2 (rfl : SRq 67 2 = some 70) (by decide) rfl hin rfl (tyX2_ok 2 (by decide)) rfl rfl q_121 dX2_init_27 ?_
  refine VG_aload_n X (i := 0) 0 dX2_init_30 rfl rfl ?_
  refine VG_bipush X (v := (11 : Int32)) dX2_init_31 (by decide) ?_
  refine VG_newaI X (n := 11) (by decide) (by decide) rfl rfl (by decide) q_71 (Nat.le_of_ble_eq_true rfl) (Nat.le_of_ble_eq_true rfl) dX2_init_33 (fun ad4 hx4 => ?_)
  rw [← hx4 67 (by decide)]
  refine VG_putR X (rfl : vwCl[2]? = some (RX2, TX2, 8)) uin_2 (i := 3) (by decide) rfl (by decide) rfl rfl (by decide) tyX2 tyX2_ok nmX2 (rfl : SRq 67 3 = some 71) (by decide) rfl hin rfl (tyX2_ok 3 (by decide)) rfl rfl q_122 dX2_init_35 ?_
  refine VG_aload_n X (i := 0) 0 dX2_init_38 rfl rfl ?_
  refine VG_bipush X (v := (16 : Int32)) dX2_init_39 (by decide) ?_
  refine VG_newaI X (n := 16) (by decide) (by decide) rfl rfl (by decide) q_71 (Nat.le_of_ble_eq_true rfl) (Nat.le_of_ble_eq_true rfl) dX2_init_41 (fun ad5 hx5 => ?_)
  rw [← hx5 67 (by decide)]
  refine VG_putR X (rfl : vwCl[2]? = some (RX2, TX2, 8)) uin_2 (i := 4) (by decide) rfl (by decide) rfl rfl (by decide) tyX2 tyX2_ok nmX2 (rfl : SRq 67 4 = some 72) (by decide) rfl hin rfl (tyX2_ok 4 (by decide)) rfl rfl q_123 dX2_init_43 ?_
  exact VG_ret X hr (fun k hk => (hx5 k (by omega)).trans ((hx4 k (by omega)).trans ((hx3 k (by omega)).trans ((hx2 k (by omega)).trans (hx1 k (by omega)))))) dX2_init_46 ⟨rfl, rfl, rfl⟩
def rfo_2_73 (rf : RFq) : RFq := (strf (strf (strf (strf (strf rf 73 0 74) 73 1 75) 73 2 76) 73 3 77) 73 4 78)
set_option maxRecDepth 20000 in
theorem ci_2_73 (l : Launch) {ad : Nat → Nat} {cy : Nat → ClassId} {D : va_G} {rf : RFq} {w : Mem} {wl : MemL} (hok : OKR 74 rf w wl) (hgk : GOK 74) (sz : Nat) : Met l yX2_init (TBq yX2_init cX2_init 1 none) (RG 1 5 840) (va_Pc [.ref (ad 73)] (fun U => U.heap.size = sz ∧ PG ad cy D rf 74 w wl U)) (va_Qv (QG ad 74 (fun a b c => a = rfo_2_73 rf ∧ b = w ∧ c = wl)) (BG cy D (AGc ad 74 sz) 79) (AGc ad 74 sz)) 5 840 (AGc ad 74 sz) := by
  refine MG_enter (by decide) (Nat.le_of_ble_eq_true rfl) hok hgk (fun p e s m args below meth c X hr hin => ?_)
  show VG p l e _ s m args below meth c 1 ad cy D _ _ 0 0 _ rf 74 w wl 0 [(0, .ref (ad 73))] []
  refine VG_aload_n X (i := 0) 0 dX2_init_0 rfl rfl ?_
  refine VG_objInit X q_118 q_28 q_29 dX2_init_1 (Nat.le_of_ble_eq_true rfl) (by decide) ?_
  refine VG_aload_n X (i := 0) 0 dX2_init_4 rfl rfl ?_
  refine VG_sipush X (v := (400 : Int32)) dX2_init_5 (by decide) ?_
  refine VG_newaI X (n := 400) (by decide) (by decide) rfl rfl (by decide) q_71 (Nat.le_of_ble_eq_true rfl) (Nat.le_of_ble_eq_true rfl) dX2_init_8 (fun ad1 hx1 => ?_)
  rw [← hx1 73 (by decide)]
  refine VG_putR X (rfl : vwCl[2]? = some (RX2, TX2, 8)) uin_2 (i := 0) (by decide) rfl (by decide) rfl rfl (by decide) tyX2 tyX2_ok nmX2 (rfl : SRq 73 0 = some 74) (by decide) rfl hin rfl (tyX2_ok 0 (by decide)) rfl rfl q_119 dX2_init_10 ?_
  refine VG_aload_n X (i := 0) 0 dX2_init_13 rfl rfl ?_
  refine VG_sipush X (v := (400 : Int32)) dX2_init_14 (by decide) ?_
  refine VG_newaI X (n := 400) (by decide) (by decide) rfl rfl (by decide) q_71 (Nat.le_of_ble_eq_true rfl) (Nat.le_of_ble_eq_true rfl) dX2_init_17 (fun ad2 hx2 => ?_)
  rw [← hx2 73 (by decide)]
  refine VG_putR X (rfl : vwCl[2]? = some (RX2, TX2, 8)) uin_2 (i := 1) (by decide) rfl (by decide) rfl rfl (by decide) tyX2 tyX2_ok nmX2 (rfl : SRq 73 1 = some 75) (by decide) rfl hin rfl (tyX2_ok 1 (by decide)) rfl rfl q_120 dX2_init_19 ?_
  refine VG_aload_n X (i := 0) 0 dX2_init_22 rfl rfl ?_
  refine VG_bipush X (v := (13 : Int32)) dX2_init_23 (by decide) ?_
  refine VG_newaI X (n := 13) (by decide) (by decide) rfl rfl (by decide) q_71 (Nat.le_of_ble_eq_true rfl) (Nat.le_of_ble_eq_true rfl) dX2_init_25 (fun ad3 hx3 => ?_)
  rw [← hx3 73 (by decide)]
  refine VG_putR X (rfl : vwCl[2]? = some (RX2, TX2, 8)) uin_2 (i := 2) (by decide) rfl (by decide) rfl rfl (by decide) tyX2 tyX2_ok nmX2 (rfl : SRq 73 2 = some 76) (by decide) rfl hin rfl (tyX2_ok 2 (by decide)) rfl rfl q_121 dX2_init_27 ?_
  refine VG_aload_n X (i := 0) 0 dX2_init_30 rfl rfl ?_
  refine VG_bipush X (v := (11 : Int32)) dX2_init_31 (by decide) ?_
  refine VG_newaI X (n := 11) (by decide) (by decide) rfl rfl (by decide) q_71 (Nat.le_of_ble_eq_true rfl) (Nat.le_of_ble_eq_true rfl) dX2_init_33 (fun ad4 hx4 => ?_)
  rw [← hx4 73 (by decide)]
  refine VG_putR X (rfl : vwCl[2]? = some (RX2, TX2, 8)) uin_2 (i := 3) (by decide) rfl (by decide) rfl rfl (by decide) tyX2 tyX2_ok nmX2 (rfl : SRq 73 3 = some 77) (by decide) rfl hin rfl (tyX2_ok 3 (by decide)) rfl rfl q_122 dX2_init_35 ?_
  refine VG_aload_n X (i := 0) 0 dX2_init_38 rfl rfl ?_
  refine VG_bipush X (v := (16 : Int32)) dX2_init_39 (by decide) ?_
  refine VG_newaI X (n := 16) (by decide) (by decide) rfl rfl (by decide) q_71 (Nat.le_of_ble_eq_true rfl) (Nat.le_of_ble_eq_true rfl) dX2_init_41 (fun ad5 hx5 => ?_)
  rw [← hx5 73 (by decide)]
  refine VG_putR X (rfl : vwCl[2]? = some (RX2, TX2, 8)) uin_2 (i := 4) (by decide) rfl (by decide) rfl rfl (by decide) tyX2 tyX2_ok nmX2 (rfl : SRq 73 4 = some 78) (by decide) rfl hin rfl (tyX2_ok 4 (by decide)) rfl rfl q_123 dX2_init_43 ?_
  exact VG_ret X hr (fun k hk => (hx5 k (by omega)).trans ((hx4 k (by omega)).trans ((hx3 k (by omega)).trans ((hx2 k (by omega)).trans (hx1 k (by omega)))))) dX2_init_46 ⟨rfl, rfl, rfl⟩
def rfo_4_80 (rf : RFq) : RFq := (strf (strf (strf (strf (strf (strf rf 80 0 81) 80 1 82) 80 2 83) 80 3 84) 80 4 85) 80 5 86)
set_option maxRecDepth 20000 in
theorem ci_4_80 (l : Launch) {ad : Nat → Nat} {cy : Nat → ClassId} {D : va_G} {rf : RFq} {w : Mem} {wl : MemL} (hok : OKR 81 rf w wl) (hgk : GOK 81) (sz : Nat) : Met l yX4_init (TBq yX4_init cX4_init 1 none) (RG 1 6 46) (va_Pc [.ref (ad 80)] (fun U => U.heap.size = sz ∧ PG ad cy D rf 81 w wl U)) (va_Qv (QG ad 81 (fun a b c => a = rfo_4_80 rf ∧ b = w ∧ c = wl)) (BG cy D (AGc ad 81 sz) 87) (AGc ad 81 sz)) 6 46 (AGc ad 81 sz) := by
  refine MG_enter (by decide) (Nat.le_of_ble_eq_true rfl) hok hgk (fun p e s m args below meth c X hr hin => ?_)
  show VG p l e _ s m args below meth c 1 ad cy D _ _ 0 0 _ rf 81 w wl 0 [(0, .ref (ad 80))] []
  refine VG_aload_n X (i := 0) 0 dX4_init_0 rfl rfl ?_
  refine VG_objInit X q_150 q_28 q_29 dX4_init_1 (Nat.le_of_ble_eq_true rfl) (by decide) ?_
  refine VG_aload_n X (i := 0) 0 dX4_init_4 rfl rfl ?_
  refine VG_bipush X (v := (8 : Int32)) dX4_init_5 (by decide) ?_
  refine VG_newaI X (n := 8) (by decide) (by decide) rfl rfl (by decide) q_71 (Nat.le_of_ble_eq_true rfl) (Nat.le_of_ble_eq_true rfl) dX4_init_7 (fun ad1 hx1 => ?_)
  rw [← hx1 80 (by decide)]
  refine VG_putR X (rfl : vwCl[4]? = some (RX4, TX4, 8)) uin_4 (i := 0) (by decide) rfl (by decide) rfl rfl (by decide) tyX4 tyX4_ok nmX4 (rfl : SRq 80 0 = some 81) (by decide) rfl hin rfl (tyX4_ok 0 (by decide)) rfl rfl q_151 dX4_init_9 ?_
  refine VG_aload_n X (i := 0) 0 dX4_init_12 rfl rfl ?_
  refine VG_bipush X (v := (8 : Int32)) dX4_init_13 (by decide) ?_
  refine VG_newaI X (n := 8) (by decide) (by decide) rfl rfl (by decide) q_71 (Nat.le_of_ble_eq_true rfl) (Nat.le_of_ble_eq_true rfl) dX4_init_15 (fun ad2 hx2 => ?_)
  rw [← hx2 80 (by decide)]
  refine VG_putR X (rfl : vwCl[4]? = some (RX4, TX4, 8)) uin_4 (i := 1) (by decide) rfl (by decide) rfl rfl (by decide) tyX4 tyX4_ok nmX4 (rfl : SRq 80 1 = some 82) (by decide) rfl hin rfl (tyX4_ok 1 (by decide)) rfl rfl q_154 dX4_init_17 ?_
  refine VG_aload_n X (i := 0) 0 dX4_init_20 rfl rfl ?_
  refine VG_bipush X (v := (8 : Int32)) dX4_init_21 (by decide) ?_
  refine VG_newaI X (n := 8) (by decide) (by decide) rfl rfl (by decide) q_71 (Nat.le_of_ble_eq_true rfl) (Nat.le_of_ble_eq_true rfl) dX4_init_23 (fun ad3 hx3 => ?_)
  rw [← hx3 80 (by decide)]
  refine VG_putR X (rfl : vwCl[4]? = some (RX4, TX4, 8)) uin_4 (i := 2) (by decide) rfl (by decide) rfl rfl (by decide) tyX4 tyX4_ok nmX4 (rfl : SRq 80 2 = some 83) (by decide) rfl hin rfl (tyX4_ok 2 (by decide)) rfl rfl q_157 dX4_init_25 ?_
  refine VG_aload_n X (i := 0) 0 dX4_init_28 rfl rfl ?_
  refine VG_bipush X (v := (8 : Int32)) dX4_init_29 (by decide) ?_
  refine VG_newaI X (n := 8) (by decide) (by decide) rfl rfl (by decide) q_71 (Nat.le_of_ble_eq_true rfl) (Nat.le_of_ble_eq_true rfl) dX4_init_31 (fun ad4 hx4 => ?_)
  rw [← hx4 80 (by decide)]
  refine VG_putR X (rfl : vwCl[4]? = some (RX4, TX4, 8)) uin_4 (i := 3) (by decide) rfl (by decide) rfl rfl (by decide) tyX4 tyX4_ok nmX4 (rfl : SRq 80 3 = some 84) (by decide) rfl hin rfl (tyX4_ok 3 (by decide)) rfl rfl q_159 dX4_init_33 ?_
  refine VG_aload_n X (i := 0) 0 dX4_init_36 rfl rfl ?_
  refine VG_bipush X (v := (7 : Int32)) dX4_init_37 (by decide) ?_
  refine VG_newaI X (n := 7) (by decide) (by decide) rfl rfl (by decide) q_71 (Nat.le_of_ble_eq_true rfl) (Nat.le_of_ble_eq_true rfl) dX4_init_39 (fun ad5 hx5 => ?_)
  rw [← hx5 80 (by decide)]
  refine VG_putR X (rfl : vwCl[4]? = some (RX4, TX4, 8)) uin_4 (i := 4) (by decide) rfl (by decide) rfl rfl (by decide) tyX4 tyX4_ok nmX4 (rfl : SRq 80 4 = some 85) (by decide) rfl hin rfl (tyX4_ok 4 (by decide)) rfl rfl q_161 dX4_init_41 ?_
  refine VG_aload_n X (i := 0) 0 dX4_init_44 rfl rfl ?_
  refine VG_bipush X (v := (7 : Int32)) dX4_init_45 (by decide) ?_
  refine VG_newaI X (n := 7) (by decide) (by decide) rfl rfl (by decide) q_71 (Nat.le_of_ble_eq_true rfl) (Nat.le_of_ble_eq_true rfl) dX4_init_47 (fun ad6 hx6 => ?_)
  rw [← hx6 80 (by decide)]
  refine VG_putR X (rfl : vwCl[4]? = some (RX4, TX4, 8)) uin_4 (i := 5) (by decide) rfl (by decide) rfl rfl (by decide) tyX4 tyX4_ok nmX4 (rfl : SRq 80 5 = some 86) (by decide) rfl hin rfl (tyX4_ok 5 (by decide)) rfl rfl q_163 dX4_init_49 ?_
  exact VG_ret X hr (fun k hk => (hx6 k (by omega)).trans ((hx5 k (by omega)).trans ((hx4 k (by omega)).trans ((hx3 k (by omega)).trans ((hx2 k (by omega)).trans (hx1 k (by omega))))))) dX4_init_52 ⟨rfl, rfl, rfl⟩
def rfo_8_48 (rf : RFq) : RFq := (strf (rfo_4_80 (strf (strf (rfo_2_73 (strf (rfo_2_67 (strf (rfo_2_61 (strf (rfo_2_55 (strf (rfo_2_49 rf) 48 0 49)) 48 1 55)) 48 2 61)) 48 3 67)) 48 4 73) 48 5 79)) 48 6 80)
set_option maxRecDepth 20000 in
theorem ci_8_48 (l : Launch) {ad : Nat → Nat} {cy : Nat → ClassId} {D : va_G} {rf : RFq} {w : Mem} {wl : MemL} (hok : OKR 49 rf w wl) (hgk : GOK 49) (sz : Nat) : Met l yX8_init (TBq yX8_init cX8_init 1 none) (RG 2 38 4299) (va_Pc [.ref (ad 48)] (fun U => U.heap.size = sz ∧ PG ad cy D rf 49 w wl U)) (va_Qv (QG ad 49 (fun a b c => a = rfo_8_48 rf ∧ b = w ∧ c = wl)) (BG cy D (AGc ad 49 sz) 87) (AGc ad 49 sz)) 38 4299 (AGc ad 49 sz) := by
  refine MG_enter (by decide) (Nat.le_of_ble_eq_true rfl) hok hgk (fun p e s m args below meth c X hr hin => ?_)
  show VG p l e _ s m args below meth c 1 ad cy D _ _ 0 0 _ rf 49 w wl 0 [(0, .ref (ad 48))] []
  refine VG_aload_n X (i := 0) 0 dX8_init_0 rfl rfl ?_
  refine VG_objInit X q_112 q_28 q_29 dX8_init_1 (Nat.le_of_ble_eq_true rfl) (by decide) ?_
  refine VG_aload_n X (i := 0) 0 dX8_init_4 rfl rfl ?_
  refine VG_new X (rfl : vwCl[2]? = some (RX2, TX2, 8)) uin_2 tyX2 tyX2_ok q_113 q_114 q_6 rfl (by decide) rfl (by decide +kernel) (Nat.le_of_ble_eq_true rfl) (Nat.le_of_ble_eq_true rfl) dX8_init_5 (fun ad1 hx1 => ?_)
  rw [← hx1 48 (by decide)]
  refine VG_dup X dX8_init_8 rfl ?_
  refine VG_call X (k := 49) (As := []) (st1 := [.ref (ad1 49), .ref (ad1 48)]) mfi_2 (Or.inr ⟨_, q_115⟩) (fun hok hgk sz => ci_2_49 l hok hgk sz) (GOKx 55 (by decide)) rfl ⟨rfl, rfl⟩ ⟨Nat.le_of_ble_eq_true rfl, Nat.le_of_ble_eq_true rfl⟩ ⟨(Nat.le_of_ble_eq_true rfl), (Nat.le_of_ble_eq_true rfl)⟩ rfl (Nat.le_of_ble_eq_true rfl) dX8_init_9 (fun ad2 rf2 w2 wl2 hx2 hq => ?_)
  obtain ⟨e1, e2, e3⟩ := hq
  subst e1 e2 e3
  rw [← hx2 48 (by decide), ← hx2 49 (by decide)]
  refine VG_putR X (rfl : vwCl[8]? = some (RX8, TX8, 18)) uin_8 (i := 0) (by decide) rfl (by decide) rfl rfl (by decide) tyX8 tyX8_ok nmX8 (rfl : SRq 48 0 = some 49) (by decide) rfl hin rfl (tyX8_ok 0 (by decide)) rfl rfl q_189 dX8_init_12 ?_
  refine VG_aload_n X (i := 0) 0 dX8_init_15 rfl rfl ?_
  refine VG_new X (rfl : vwCl[2]? = some (RX2, TX2, 8)) uin_2 tyX2 tyX2_ok q_113 q_114 q_6 rfl (by decide) rfl (by decide +kernel) (Nat.le_of_ble_eq_true rfl) (Nat.le_of_ble_eq_true rfl) dX8_init_16 (fun ad3 hx3 => ?_)
  rw [← hx3 48 (by decide)]
  refine VG_dup X dX8_init_19 rfl ?_
  refine VG_call X (k := 55) (As := []) (st1 := [.ref (ad3 55), .ref (ad3 48)]) mfi_2 (Or.inr ⟨_, q_115⟩) (fun hok hgk sz => ci_2_55 l hok hgk sz) (GOKx 61 (by decide)) rfl ⟨rfl, rfl⟩ ⟨Nat.le_of_ble_eq_true rfl, Nat.le_of_ble_eq_true rfl⟩ ⟨(Nat.le_of_ble_eq_true rfl), (Nat.le_of_ble_eq_true rfl)⟩ rfl (Nat.le_of_ble_eq_true rfl) dX8_init_20 (fun ad4 rf4 w4 wl4 hx4 hq => ?_)
  obtain ⟨e1, e2, e3⟩ := hq
  subst e1 e2 e3
  rw [← hx4 48 (by decide), ← hx4 55 (by decide)]
  refine VG_putR X (rfl : vwCl[8]? = some (RX8, TX8, 18)) uin_8 (i := 1) (by decide) rfl (by decide) rfl rfl (by decide) tyX8 tyX8_ok nmX8 (rfl : SRq 48 1 = some 55) (by decide) rfl hin rfl (tyX8_ok 1 (by decide)) rfl rfl q_192 dX8_init_23 ?_
  refine VG_aload_n X (i := 0) 0 dX8_init_26 rfl rfl ?_
  refine VG_new X (rfl : vwCl[2]? = some (RX2, TX2, 8)) uin_2 tyX2 tyX2_ok q_113 q_114 q_6 rfl (by decide) rfl (by decide +kernel) (Nat.le_of_ble_eq_true rfl) (Nat.le_of_ble_eq_true rfl) dX8_init_27 (fun ad5 hx5 => ?_)
  rw [← hx5 48 (by decide)]
  refine VG_dup X dX8_init_30 rfl ?_
  refine VG_call X (k := 61) (As := []) (st1 := [.ref (ad5 61), .ref (ad5 48)]) mfi_2 (Or.inr ⟨_, q_115⟩) (fun hok hgk sz => ci_2_61 l hok hgk sz) (GOKx 67 (by decide)) rfl ⟨rfl, rfl⟩ ⟨Nat.le_of_ble_eq_true rfl, Nat.le_of_ble_eq_true rfl⟩ ⟨(Nat.le_of_ble_eq_true rfl), (Nat.le_of_ble_eq_true rfl)⟩ rfl (Nat.le_of_ble_eq_true rfl) dX8_init_31 (fun ad6 rf6 w6 wl6 hx6 hq => ?_)
  obtain ⟨e1, e2, e3⟩ := hq
  subst e1 e2 e3
  rw [← hx6 48 (by decide), ← hx6 61 (by decide)]
  refine VG_putR X (rfl : vwCl[8]? = some (RX8, TX8, 18)) uin_8 (i := 2) (by decide) rfl (by decide) rfl rfl (by decide) tyX8 tyX8_ok nmX8 (rfl : SRq 48 2 = some 61) (by decide) rfl hin rfl (tyX8_ok 2 (by decide)) rfl rfl q_195 dX8_init_34 ?_
  refine VG_aload_n X (i := 0) 0 dX8_init_37 rfl rfl ?_
  refine VG_new X (rfl : vwCl[2]? = some (RX2, TX2, 8)) uin_2 tyX2 tyX2_ok q_113 q_114 q_6 rfl (by decide) rfl (by decide +kernel) (Nat.le_of_ble_eq_true rfl) (Nat.le_of_ble_eq_true rfl) dX8_init_38 (fun ad7 hx7 => ?_)
  rw [← hx7 48 (by decide)]
  refine VG_dup X dX8_init_41 rfl ?_
  refine VG_call X (k := 67) (As := []) (st1 := [.ref (ad7 67), .ref (ad7 48)]) mfi_2 (Or.inr ⟨_, q_115⟩) (fun hok hgk sz => ci_2_67 l hok hgk sz) (GOKx 73 (by decide)) rfl ⟨rfl, rfl⟩ ⟨Nat.le_of_ble_eq_true rfl, Nat.le_of_ble_eq_true rfl⟩ ⟨(Nat.le_of_ble_eq_true rfl), (Nat.le_of_ble_eq_true rfl)⟩ rfl (Nat.le_of_ble_eq_true rfl) dX8_init_42 (fun ad8 rf8 w8 wl8 hx8 hq => ?_)
  obtain ⟨e1, e2, e3⟩ := hq
  subst e1 e2 e3
  rw [← hx8 48 (by decide), ← hx8 67 (by decide)]
  refine VG_putR X (rfl : vwCl[8]? = some (RX8, TX8, 18)) uin_8 (i := 3) (by decide) rfl (by decide) rfl rfl (by decide) tyX8 tyX8_ok nmX8 (rfl : SRq 48 3 = some 67) (by decide) rfl hin rfl (tyX8_ok 3 (by decide)) rfl rfl q_198 dX8_init_45 ?_
  refine VG_aload_n X (i := 0) 0 dX8_init_48 rfl rfl ?_
  refine VG_new X (rfl : vwCl[2]? = some (RX2, TX2, 8)) uin_2 tyX2 tyX2_ok q_113 q_114 q_6 rfl (by decide) rfl (by decide +kernel) (Nat.le_of_ble_eq_true rfl) (Nat.le_of_ble_eq_true rfl) dX8_init_49 (fun ad9 hx9 => ?_)
  rw [← hx9 48 (by decide)]
  refine VG_dup X dX8_init_52 rfl ?_
  refine VG_call X (k := 73) (As := []) (st1 := [.ref (ad9 73), .ref (ad9 48)]) mfi_2 (Or.inr ⟨_, q_115⟩) (fun hok hgk sz => ci_2_73 l hok hgk sz) (GOKx 79 (by decide)) rfl ⟨rfl, rfl⟩ ⟨Nat.le_of_ble_eq_true rfl, Nat.le_of_ble_eq_true rfl⟩ ⟨(Nat.le_of_ble_eq_true rfl), (Nat.le_of_ble_eq_true rfl)⟩ rfl (Nat.le_of_ble_eq_true rfl) dX8_init_53 (fun ad10 rf10 w10 wl10 hx10 hq => ?_)
  obtain ⟨e1, e2, e3⟩ := hq
  subst e1 e2 e3
  rw [← hx10 48 (by decide), ← hx10 73 (by decide)]
  refine VG_putR X (rfl : vwCl[8]? = some (RX8, TX8, 18)) uin_8 (i := 4) (by decide) rfl (by decide) rfl rfl (by decide) tyX8 tyX8_ok nmX8 (rfl : SRq 48 4 = some 73) (by decide) rfl hin rfl (tyX8_ok 4 (by decide)) rfl rfl q_201 dX8_init_56 ?_
  refine VG_aload_n X (i := 0) 0 dX8_init_59 rfl rfl ?_
  refine VG_iconst X (v := (5 : Int32)) dX8_init_60 (by decide) ?_
  refine VG_newaI X (n := 5) (by decide) (by decide) rfl rfl (by decide) q_71 (Nat.le_of_ble_eq_true rfl) (Nat.le_of_ble_eq_true rfl) dX8_init_61 (fun ad11 hx11 => ?_)
  rw [← hx11 48 (by decide)]
  refine VG_putR X (rfl : vwCl[8]? = some (RX8, TX8, 18)) uin_8 (i := 5) (by decide) rfl (by decide) rfl rfl (by decide) tyX8 tyX8_ok nmX8 (rfl : SRq 48 5 = some 79) (by decide) rfl hin rfl (tyX8_ok 5 (by decide)) rfl rfl q_204 dX8_init_63 ?_
  refine VG_aload_n X (i := 0) 0 dX8_init_66 rfl rfl ?_
  refine VG_new X (rfl : vwCl[4]? = some (RX4, TX4, 8)) uin_4 tyX4 tyX4_ok q_145 q_146 q_7 rfl (by decide) rfl (by decide +kernel) (Nat.le_of_ble_eq_true rfl) (Nat.le_of_ble_eq_true rfl) dX8_init_67 (fun ad12 hx12 => ?_)
  rw [← hx12 48 (by decide)]
  refine VG_dup X dX8_init_70 rfl ?_
  refine VG_call X (k := 80) (As := []) (st1 := [.ref (ad12 80), .ref (ad12 48)]) mfi_4 (Or.inr ⟨_, q_147⟩) (fun hok hgk sz => ci_4_80 l hok hgk sz) (GOKx 87 (by decide)) rfl ⟨rfl, rfl⟩ ⟨Nat.le_of_ble_eq_true rfl, Nat.le_of_ble_eq_true rfl⟩ ⟨(Nat.le_of_ble_eq_true rfl), (Nat.le_of_ble_eq_true rfl)⟩ rfl (Nat.le_of_ble_eq_true rfl) dX8_init_71 (fun ad13 rf13 w13 wl13 hx13 hq => ?_)
  obtain ⟨e1, e2, e3⟩ := hq
  subst e1 e2 e3
  rw [← hx13 48 (by decide), ← hx13 80 (by decide)]
  refine VG_putR X (rfl : vwCl[8]? = some (RX8, TX8, 18)) uin_8 (i := 6) (by decide) rfl (by decide) rfl rfl (by decide) tyX8 tyX8_ok nmX8 (rfl : SRq 48 6 = some 80) (by decide) rfl hin rfl (tyX8_ok 6 (by decide)) rfl rfl q_207 dX8_init_74 ?_
  exact VG_ret X hr (fun k hk => (hx13 k (by omega)).trans ((hx12 k (by omega)).trans ((hx11 k (by omega)).trans ((hx10 k (by omega)).trans ((hx9 k (by omega)).trans ((hx8 k (by omega)).trans ((hx7 k (by omega)).trans ((hx6 k (by omega)).trans ((hx5 k (by omega)).trans ((hx4 k (by omega)).trans ((hx3 k (by omega)).trans ((hx2 k (by omega)).trans (hx1 k (by omega)))))))))))))) dX8_init_77 ⟨rfl, rfl, rfl⟩
theorem mfi_0 : MFI yX0_init cX0_init 2 1 := ⟨q_291, q_290, q_8, rfl, by decide⟩
def rfo_0_87 (rf : RFq) : RFq := (strf (strf rf 87 1 88) 87 0 48)
set_option maxRecDepth 20000 in
theorem ci_0_87 (l : Launch) {ad : Nat → Nat} {cy : Nat → ClassId} {D : va_G} {rf : RFq} {w : Mem} {wl : MemL} (hok : OKR 88 rf w wl) (hgk : GOK 88) (sz : Nat) : Met l yX0_init (TBq yX0_init cX0_init 2 none) (RG 1 1 7) (va_Pc [.ref (ad 87), .ref (ad 48)] (fun U => U.heap.size = sz ∧ PG ad cy D rf 88 w wl U)) (va_Qv (QG ad 88 (fun a b c => a = rfo_0_87 rf ∧ b = w ∧ c = wl)) (BG cy D (AGc ad 88 sz) 89) (AGc ad 88 sz)) 1 7 (AGc ad 88 sz) := by
  refine MG_enter (by decide) (Nat.le_of_ble_eq_true rfl) hok hgk (fun p e s m args below meth c X hr hin => ?_)
  show VG p l e _ s m args below meth c 2 ad cy D _ _ 0 0 _ rf 88 w wl 0 [(0, .ref (ad 87)), (1, .ref (ad 48))] []
  refine VG_aload_n X (i := 0) 0 dX0_init_0 rfl rfl ?_
  refine VG_objInit X q_292 q_28 q_29 dX0_init_1 (Nat.le_of_ble_eq_true rfl) (by decide) ?_
  refine VG_aload_n X (i := 0) 0 dX0_init_4 rfl rfl ?_
  refine VG_bipush X (v := (7 : Int32)) dX0_init_5 (by decide) ?_
  refine VG_newaI X (n := 7) (by decide) (by decide) rfl rfl (by decide) q_71 (Nat.le_of_ble_eq_true rfl) (Nat.le_of_ble_eq_true rfl) dX0_init_7 (fun ad1 hx1 => ?_)
  rw [← hx1 87 (by decide), ← hx1 48 (by decide)]
  refine VG_putR X (rfl : vwCl[0]? = some (RX0, TX0, 8)) uin_0 (i := 1) (by decide) rfl (by decide) rfl rfl (by decide) tyX0 tyX0_ok nmX0 (rfl : SRq 87 1 = some 88) (by decide) rfl hin rfl (tyX0_ok 1 (by decide)) rfl rfl q_294 dX0_init_9 ?_
  refine VG_aload_n X (i := 0) 0 dX0_init_12 rfl rfl ?_
  refine VG_aload_n X (i := 1) 1 dX0_init_13 rfl rfl ?_
  refine VG_putR X (rfl : vwCl[0]? = some (RX0, TX0, 8)) uin_0 (i := 0) (by decide) rfl (by decide) rfl rfl (by decide) tyX0 tyX0_ok nmX0 (rfl : SRq 87 0 = some 48) (by decide) rfl hin rfl (tyX0_ok 0 (by decide)) rfl rfl q_293 dX0_init_14 ?_
  exact VG_ret X hr (fun k hk => hx1 k (by omega)) dX0_init_17 ⟨rfl, rfl, rfl⟩
theorem mfi_5 : MFI yX5_init cX5_init 2 1 := ⟨q_333, q_332, q_9, rfl, by decide⟩
def rfo_5_89 (rf : RFq) : RFq := (strf (strf (strf (strf rf 89 1 90) 89 2 91) 89 3 92) 89 0 48)
set_option maxRecDepth 20000 in
theorem ci_5_89 (l : Launch) {ad : Nat → Nat} {cy : Nat → ClassId} {D : va_G} {rf : RFq} {w : Mem} {wl : MemL} (hok : OKR 90 rf w wl) (hgk : GOK 90) (sz : Nat) : Met l yX5_init (TBq yX5_init cX5_init 2 none) (RG 1 3 272) (va_Pc [.ref (ad 89), .ref (ad 48)] (fun U => U.heap.size = sz ∧ PG ad cy D rf 90 w wl U)) (va_Qv (QG ad 90 (fun a b c => a = rfo_5_89 rf ∧ b = w ∧ c = wl)) (BG cy D (AGc ad 90 sz) 93) (AGc ad 90 sz)) 3 272 (AGc ad 90 sz) := by
  refine MG_enter (by decide) (Nat.le_of_ble_eq_true rfl) hok hgk (fun p e s m args below meth c X hr hin => ?_)
  show VG p l e _ s m args below meth c 2 ad cy D _ _ 0 0 _ rf 90 w wl 0 [(0, .ref (ad 89)), (1, .ref (ad 48))] []
  refine VG_aload_n X (i := 0) 0 dX5_init_0 rfl rfl ?_
  refine VG_objInit X q_334 q_28 q_29 dX5_init_1 (Nat.le_of_ble_eq_true rfl) (by decide) ?_
  refine VG_aload_n X (i := 0) 0 dX5_init_4 rfl rfl ?_
  refine VG_bipush X (v := (8 : Int32)) dX5_init_5 (by decide) ?_
  refine VG_newaI X (n := 8) (by decide) (by decide) rfl rfl (by decide) q_71 (Nat.le_of_ble_eq_true rfl) (Nat.le_of_ble_eq_true rfl) dX5_init_7 (fun ad1 hx1 => ?_)
  rw [← hx1 89 (by decide), ← hx1 48 (by decide)]
  refine VG_putR X (rfl : vwCl[5]? = some (RX5, TX5, 9)) uin_5 (i := 1) (by decide) rfl (by decide) rfl rfl (by decide) tyX5 tyX5_ok nmX5 (rfl : SRq 89 1 = some 90) (by decide) rfl hin rfl (tyX5_ok 1 (by decide)) rfl rfl q_336 dX5_init_9 ?_
  refine VG_aload_n X (i := 0) 0 dX5_init_12 rfl rfl ?_
  refine VG_bipush X (v := (8 : Int32)) dX5_init_13 (by decide) ?_
  refine VG_newaI X (n := 8) (by decide) (by decide) rfl rfl (by decide) q_71 (Nat.le_of_ble_eq_true rfl) (Nat.le_of_ble_eq_true rfl) dX5_init_15 (fun ad2 hx2 => ?_)
  rw [← hx2 89 (by decide), ← hx2 48 (by decide)]
  refine VG_putR X (rfl : vwCl[5]? = some (RX5, TX5, 9)) uin_5 (i := 2) (by decide) rfl (by decide) rfl rfl (by decide) tyX5 tyX5_ok nmX5 (rfl : SRq 89 2 = some 91) (by decide) rfl hin rfl (tyX5_ok 2 (by decide)) rfl rfl q_337 dX5_init_17 ?_
  refine VG_aload_n X (i := 0) 0 dX5_init_20 rfl rfl ?_
  refine VG_sipush X (v := (256 : Int32)) dX5_init_21 (by decide) ?_
  refine VG_newaI X (n := 256) (by decide) (by decide) rfl rfl (by decide) q_71 (Nat.le_of_ble_eq_true rfl) (Nat.le_of_ble_eq_true rfl) dX5_init_24 (fun ad3 hx3 => ?_)
  rw [← hx3 89 (by decide), ← hx3 48 (by decide)]
  refine VG_putR X (rfl : vwCl[5]? = some (RX5, TX5, 9)) uin_5 (i := 3) (by decide) rfl (by decide) rfl rfl (by decide) tyX5 tyX5_ok nmX5 (rfl : SRq 89 3 = some 92) (by decide) rfl hin rfl (tyX5_ok 3 (by decide)) rfl rfl q_339 dX5_init_26 ?_
  refine VG_aload_n X (i := 0) 0 dX5_init_29 rfl rfl ?_
  refine VG_aload_n X (i := 1) 1 dX5_init_30 rfl rfl ?_
  refine VG_putR X (rfl : vwCl[5]? = some (RX5, TX5, 9)) uin_5 (i := 0) (by decide) rfl (by decide) rfl rfl (by decide) tyX5 tyX5_ok nmX5 (rfl : SRq 89 0 = some 48) (by decide) rfl hin rfl (tyX5_ok 0 (by decide)) rfl rfl q_335 dX5_init_31 ?_
  exact VG_ret X hr (fun k hk => (hx3 k (by omega)).trans ((hx2 k (by omega)).trans (hx1 k (by omega)))) dX5_init_34 ⟨rfl, rfl, rfl⟩
def rfo_5_93 (rf : RFq) : RFq := (strf (strf (strf (strf rf 93 1 94) 93 2 95) 93 3 96) 93 0 48)
set_option maxRecDepth 20000 in
theorem ci_5_93 (l : Launch) {ad : Nat → Nat} {cy : Nat → ClassId} {D : va_G} {rf : RFq} {w : Mem} {wl : MemL} (hok : OKR 94 rf w wl) (hgk : GOK 94) (sz : Nat) : Met l yX5_init (TBq yX5_init cX5_init 2 none) (RG 1 3 272) (va_Pc [.ref (ad 93), .ref (ad 48)] (fun U => U.heap.size = sz ∧ PG ad cy D rf 94 w wl U)) (va_Qv (QG ad 94 (fun a b c => a = rfo_5_93 rf ∧ b = w ∧ c = wl)) (BG cy D (AGc ad 94 sz) 97) (AGc ad 94 sz)) 3 272 (AGc ad 94 sz) := by
  refine MG_enter (by decide) (Nat.le_of_ble_eq_true rfl) hok hgk (fun p e s m args below meth c X hr hin => ?_)
  show VG p l e _ s m args below meth c 2 ad cy D _ _ 0 0 _ rf 94 w wl 0 [(0, .ref (ad 93)), (1, .ref (ad 48))] []
  refine VG_aload_n X (i := 0) 0 dX5_init_0 rfl rfl ?_
  refine VG_objInit X q_334 q_28 q_29 dX5_init_1 (Nat.le_of_ble_eq_true rfl) (by decide) ?_
  refine VG_aload_n X (i := 0) 0 dX5_init_4 rfl rfl ?_
  refine VG_bipush X (v := (8 : Int32)) dX5_init_5 (by decide) ?_
  refine VG_newaI X (n := 8) (by decide) (by decide) rfl rfl (by decide) q_71 (Nat.le_of_ble_eq_true rfl) (Nat.le_of_ble_eq_true rfl) dX5_init_7 (fun ad1 hx1 => ?_)
  rw [← hx1 93 (by decide), ← hx1 48 (by decide)]
  refine VG_putR X (rfl : vwCl[5]? = some (RX5, TX5, 9)) uin_5 (i := 1) (by decide) rfl (by decide) rfl rfl (by decide) tyX5 tyX5_ok nmX5 (rfl : SRq 93 1 = some 94) (by decide) rfl hin rfl (tyX5_ok 1 (by decide)) rfl rfl q_336 dX5_init_9 ?_
  refine VG_aload_n X (i := 0) 0 dX5_init_12 rfl rfl ?_
  refine VG_bipush X (v := (8 : Int32)) dX5_init_13 (by decide) ?_
  refine VG_newaI X (n := 8) (by decide) (by decide) rfl rfl (by decide) q_71 (Nat.le_of_ble_eq_true rfl) (Nat.le_of_ble_eq_true rfl) dX5_init_15 (fun ad2 hx2 => ?_)
  rw [← hx2 93 (by decide), ← hx2 48 (by decide)]
  refine VG_putR X (rfl : vwCl[5]? = some (RX5, TX5, 9)) uin_5 (i := 2) (by decide) rfl (by decide) rfl rfl (by decide) tyX5 tyX5_ok nmX5 (rfl : SRq 93 2 = some 95) (by decide) rfl hin rfl (tyX5_ok 2 (by decide)) rfl rfl q_337 dX5_init_17 ?_
  refine VG_aload_n X (i := 0) 0 dX5_init_20 rfl rfl ?_
  refine VG_sipush X (v := (256 : Int32)) dX5_init_21 (by decide) ?_
  refine VG_newaI X (n := 256) (by decide) (by decide) rfl rfl (by decide) q_71 (Nat.le_of_ble_eq_true rfl) (Nat.le_of_ble_eq_true rfl) dX5_init_24 (fun ad3 hx3 => ?_)
  rw [← hx3 93 (by decide), ← hx3 48 (by decide)]
  refine VG_putR X (rfl : vwCl[5]? = some (RX5, TX5, 9)) uin_5 (i := 3) (by decide) rfl (by decide) rfl rfl (by decide) tyX5 tyX5_ok nmX5 (rfl : SRq 93 3 = some 96) (by decide) rfl hin rfl (tyX5_ok 3 (by decide)) rfl rfl q_339 dX5_init_26 ?_
  refine VG_aload_n X (i := 0) 0 dX5_init_29 rfl rfl ?_
  refine VG_aload_n X (i := 1) 1 dX5_init_30 rfl rfl ?_
  refine VG_putR X (rfl : vwCl[5]? = some (RX5, TX5, 9)) uin_5 (i := 0) (by decide) rfl (by decide) rfl rfl (by decide) tyX5 tyX5_ok nmX5 (rfl : SRq 93 0 = some 48) (by decide) rfl hin rfl (tyX5_ok 0 (by decide)) rfl rfl q_335 dX5_init_31 ?_
  exact VG_ret X hr (fun k hk => (hx3 k (by omega)).trans ((hx2 k (by omega)).trans (hx1 k (by omega)))) dX5_init_34 ⟨rfl, rfl, rfl⟩
theorem mfi_1 : MFI yX1_init cX1_init 1 0 := ⟨q_372, q_371, q_10, rfl, by decide⟩
def rfo_1_97 (rf : RFq) : RFq := (strf rf 97 0 98)
set_option maxRecDepth 20000 in
theorem ci_1_97 (l : Launch) {ad : Nat → Nat} {cy : Nat → ClassId} {D : va_G} {rf : RFq} {w : Mem} {wl : MemL} (hok : OKR 98 rf w wl) (hgk : GOK 98) (sz : Nat) : Met l yX1_init (TBq yX1_init cX1_init 1 none) (RG 1 41 11120) (va_Pc [.ref (ad 97)] (fun U => U.heap.size = sz ∧ PG ad cy D rf 98 w wl U)) (va_Qv (QG ad 98 (fun a b c => a = rfo_1_97 rf ∧ b = w ∧ c = wl)) (BG cy D (AGc ad 98 sz) 139) (AGc ad 98 sz)) 41 11120 (AGc ad 98 sz) := by
  refine MG_enter (by decide) (Nat.le_of_ble_eq_true rfl) hok hgk (fun p e s m args below meth c X hr hin => ?_)
  show VG p l e _ s m args below meth c 1 ad cy D _ _ 0 0 _ rf 98 w wl 0 [(0, .ref (ad 97))] []
  refine VG_aload_n X (i := 0) 0 dX1_init_0 rfl rfl ?_
  refine VG_objInit X q_373 q_28 q_29 dX1_init_1 (Nat.le_of_ble_eq_true rfl) (by decide) ?_
  refine VG_aload_n X (i := 0) 0 dX1_init_4 rfl rfl ?_
  refine VG_bipush X (v := (40 : Int32)) dX1_init_5 (by decide) ?_
  refine VG_sipush X (v := (277 : Int32)) dX1_init_7 (by decide) ?_
  refine VG_mna X (n := 40) (K := 277) (by decide) (by decide) (by decide) (by decide) rfl rfl gridm_98 (by decide) (by decide) (by decide) (by decide) q_374 q_71 (Nat.le_of_ble_eq_true rfl) (Nat.le_of_ble_eq_true rfl) dX1_init_10 (fun ad1 hx1 => ?_)
  rw [← hx1 97 (by decide)]
  refine VG_putR X (rfl : vwCl[1]? = some (RX1, TX1, 3)) uin_1 (i := 0) (by decide) rfl (by decide) rfl rfl (by decide) tyX1 tyX1_ok nmX1 (rfl : SRq 97 0 = some 98) (by decide) rfl hin rfl (tyX1_ok 0 (by decide)) rfl rfl q_376 dX1_init_14 ?_
  exact VG_ret X hr (fun k hk => hx1 k (by omega)) dX1_init_17 ⟨rfl, rfl, rfl⟩
theorem mfi_6 : MFI yX6_init cX6_init 1 0 := ⟨q_391, q_390, q_11, rfl, by decide⟩
def rfo_6_139 (rf : RFq) : RFq := (strf (strf rf 139 0 140) 139 1 144)
set_option maxRecDepth 20000 in
theorem ci_6_139 (l : Launch) {ad : Nat → Nat} {cy : Nat → ClassId} {D : va_G} {rf : RFq} {w : Mem} {wl : MemL} (hok : OKR 140 rf w wl) (hgk : GOK 140) (sz : Nat) : Met l yX6_init (TBq yX6_init cX6_init 1 none) (RG 1 5 837) (va_Pc [.ref (ad 139)] (fun U => U.heap.size = sz ∧ PG ad cy D rf 140 w wl U)) (va_Qv (QG ad 140 (fun a b c => a = rfo_6_139 rf ∧ b = w ∧ c = wl)) (BG cy D (AGc ad 140 sz) 145) (AGc ad 140 sz)) 5 837 (AGc ad 140 sz) := by
  refine MG_enter (by decide) (Nat.le_of_ble_eq_true rfl) hok hgk (fun p e s m args below meth c X hr hin => ?_)
  show VG p l e _ s m args below meth c 1 ad cy D _ _ 0 0 _ rf 140 w wl 0 [(0, .ref (ad 139))] []
  refine VG_aload_n X (i := 0) 0 dX6_init_0 rfl rfl ?_
  refine VG_objInit X q_392 q_28 q_29 dX6_init_1 (Nat.le_of_ble_eq_true rfl) (by decide) ?_
  refine VG_aload_n X (i := 0) 0 dX6_init_4 rfl rfl ?_
  refine VG_iconst X (v := (3 : Int32)) dX6_init_5 (by decide) ?_
  refine VG_sipush X (v := (277 : Int32)) dX6_init_6 (by decide) ?_
  refine VG_mna X (n := 3) (K := 277) (by decide) (by decide) (by decide) (by decide) rfl rfl gridm_140 (by decide) (by decide) (by decide) (by decide) q_393 q_71 (Nat.le_of_ble_eq_true rfl) (Nat.le_of_ble_eq_true rfl) dX6_init_9 (fun ad1 hx1 => ?_)
  rw [← hx1 139 (by decide)]
  refine VG_putR X (rfl : vwCl[6]? = some (RX6, TX6, 2)) uin_6 (i := 0) (by decide) rfl (by decide) rfl rfl (by decide) tyX6 tyX6_ok nmX6 (rfl : SRq 139 0 = some 140) (by decide) rfl hin rfl (tyX6_ok 0 (by decide)) rfl rfl q_394 dX6_init_13 ?_
  refine VG_aload_n X (i := 0) 0 dX6_init_16 rfl rfl ?_
  refine VG_iconst X (v := (3 : Int32)) dX6_init_17 (by decide) ?_
  refine VG_newaZ X (n := 3) (by decide) (by decide) rfl rfl (by decide) q_401 (Nat.le_of_ble_eq_true rfl) (Nat.le_of_ble_eq_true rfl) dX6_init_18 (fun ad2 hx2 => ?_)
  rw [← hx2 139 (by decide)]
  refine VG_putR X (rfl : vwCl[6]? = some (RX6, TX6, 2)) uin_6 (i := 1) (by decide) rfl (by decide) rfl rfl (by decide) tyX6 tyX6_ok nmX6 (rfl : SRq 139 1 = some 144) (by decide) rfl hin rfl (tyX6_ok 1 (by decide)) rfl rfl q_395 dX6_init_20 ?_
  exact VG_ret X hr (fun k hk => (hx2 k (by omega)).trans (hx1 k (by omega))) dX6_init_23 ⟨rfl, rfl, rfl⟩
theorem mfi_10 : MFI yX10_init cX10_init 1 0 := ⟨q_406, q_405, q_12, rfl, by decide⟩
def rfo_10_145 (rf : RFq) : RFq := (strf (strf (strf rf 145 0 146) 145 1 147) 145 2 148)
set_option maxRecDepth 20000 in
theorem ci_10_145 (l : Launch) {ad : Nat → Nat} {cy : Nat → ClassId} {D : va_G} {rf : RFq} {w : Mem} {wl : MemL} (hok : OKR 146 rf w wl) (hgk : GOK 146) (sz : Nat) : Met l yX10_init (TBq yX10_init cX10_init 1 none) (RG 1 3 60) (va_Pc [.ref (ad 145)] (fun U => U.heap.size = sz ∧ PG ad cy D rf 146 w wl U)) (va_Qv (QG ad 146 (fun a b c => a = rfo_10_145 rf ∧ b = w ∧ c = wl)) (BG cy D (AGc ad 146 sz) 149) (AGc ad 146 sz)) 3 60 (AGc ad 146 sz) := by
  refine MG_enter (by decide) (Nat.le_of_ble_eq_true rfl) hok hgk (fun p e s m args below meth c X hr hin => ?_)
  show VG p l e _ s m args below meth c 1 ad cy D _ _ 0 0 _ rf 146 w wl 0 [(0, .ref (ad 145))] []
  refine VG_aload_n X (i := 0) 0 dX10_init_0 rfl rfl ?_
  refine VG_objInit X q_407 q_28 q_29 dX10_init_1 (Nat.le_of_ble_eq_true rfl) (by decide) ?_
  refine VG_aload_n X (i := 0) 0 dX10_init_4 rfl rfl ?_
  refine VG_bipush X (v := (20 : Int32)) dX10_init_5 (by decide) ?_
  refine VG_newaI X (n := 20) (by decide) (by decide) rfl rfl (by decide) q_71 (Nat.le_of_ble_eq_true rfl) (Nat.le_of_ble_eq_true rfl) dX10_init_7 (fun ad1 hx1 => ?_)
  rw [← hx1 145 (by decide)]
  refine VG_putR X (rfl : vwCl[10]? = some (RX10, TX10, 4)) uin_10 (i := 0) (by decide) rfl (by decide) rfl rfl (by decide) tyX10 tyX10_ok nmX10 (rfl : SRq 145 0 = some 146) (by decide) rfl hin rfl (tyX10_ok 0 (by decide)) rfl rfl q_408 dX10_init_9 ?_
  refine VG_aload_n X (i := 0) 0 dX10_init_12 rfl rfl ?_
  refine VG_bipush X (v := (20 : Int32)) dX10_init_13 (by decide) ?_
  refine VG_newaI X (n := 20) (by decide) (by decide) rfl rfl (by decide) q_71 (Nat.le_of_ble_eq_true rfl) (Nat.le_of_ble_eq_true rfl) dX10_init_15 (fun ad2 hx2 => ?_)
  rw [← hx2 145 (by decide)]
  refine VG_putR X (rfl : vwCl[10]? = some (RX10, TX10, 4)) uin_10 (i := 1) (by decide) rfl (by decide) rfl rfl (by decide) tyX10 tyX10_ok nmX10 (rfl : SRq 145 1 = some 147) (by decide) rfl hin rfl (tyX10_ok 1 (by decide)) rfl rfl q_410 dX10_init_17 ?_
  refine VG_aload_n X (i := 0) 0 dX10_init_20 rfl rfl ?_
  refine VG_bipush X (v := (20 : Int32)) dX10_init_21 (by decide) ?_
  refine VG_newaI X (n := 20) (by decide) (by decide) rfl rfl (by decide) q_71 (Nat.le_of_ble_eq_true rfl) (Nat.le_of_ble_eq_true rfl) dX10_init_23 (fun ad3 hx3 => ?_)
  rw [← hx3 145 (by decide)]
  refine VG_putR X (rfl : vwCl[10]? = some (RX10, TX10, 4)) uin_10 (i := 2) (by decide) rfl (by decide) rfl rfl (by decide) tyX10 tyX10_ok nmX10 (rfl : SRq 145 2 = some 148) (by decide) rfl hin rfl (tyX10_ok 2 (by decide)) rfl rfl q_412 dX10_init_25 ?_
  exact VG_ret X hr (fun k hk => (hx3 k (by omega)).trans ((hx2 k (by omega)).trans (hx1 k (by omega)))) dX10_init_28 ⟨rfl, rfl, rfl⟩
