-- printed by wip/whole/gen8.py
def rfZ : RFq := fun _ _ => none
def wlZ : MemL := fun _ _ => 0
section
variable {p : Program} {l : Launch} {e : Env} {R : Room} {s : State} {m : MethodId} {args : Array Value} {below : List Frame} {meth : Method} {c : Code} {cc : ByteArray} {nL : Nat} {ad : Nat → Nat} {cy : Nat → ClassId} {D : va_G} {A : Nat → Prop} {H0 : Heap} {ce sl : Nat} {Qs : State → Prop} {wc wm : Mem} {wl0 : MemL} {pc : Nat} {ls : List (Nat × Value)} {st1 : List Value}
theorem q_25 : (Jvm.Cond.instanceMethod ({ cls := "WindJump", name := "<init>", desc := "()V" } : Jvm.MethodName)) ∈ TBG := inG1 (i := 25) rfl rfl
theorem q_26 : (Jvm.Cond.code ({ cls := "WindJump", name := "<init>", desc := "()V" } : Jvm.MethodName) prog_1_method_1_code (1 : Nat) (Option.none : Option Jvm.ClassFile.FieldType)) ∈ TBG := inG1 (i := 26) rfl rfl
theorem q_27 : (Jvm.Cond.methodLink "WindJump" (1 : Nat) ({ cls := "java/lang/Object", name := "<init>", desc := "()V" } : Jvm.MethodName)) ∈ TBG := inG1 (i := 27) rfl rfl
theorem q_30 : (Jvm.Cond.classLink "WindJump" (7 : Nat) "WindJump$Tape") ∈ TBG := inG1 (i := 30) rfl rfl
theorem q_31 : (Jvm.Cond.instantiable "WindJump$Tape" (2 : Nat)) ∈ TBG := inG1 (i := 31) rfl rfl
theorem q_32 : (Jvm.Cond.methodLinkNest "WindJump" (9 : Nat) ({ cls := "WindJump$Tape", name := "<init>", desc := "()V" } : Jvm.MethodName) "WindJump") ∈ NWL := inN1 (i := 32) rfl rfl
theorem q_46 : (Jvm.Cond.classLink "WindJump" (16 : Nat) "WindJump$Tokens") ∈ TBG := inG1 (i := 46) rfl rfl
theorem q_47 : (Jvm.Cond.instantiable "WindJump$Tokens" (5 : Nat)) ∈ TBG := inG1 (i := 47) rfl rfl
theorem q_48 : (Jvm.Cond.methodLink "WindJump" (18 : Nat) ({ cls := "WindJump$Tokens", name := "<init>", desc := "(LWindJump$Tape;)V" } : Jvm.MethodName)) ∈ TBG := inG1 (i := 48) rfl rfl
theorem q_72 : (Jvm.Cond.classLink "WindJump" (25 : Nat) "WindJump$Parser") ∈ TBG := inG1 (i := 72) rfl rfl
theorem q_73 : (Jvm.Cond.instantiable "WindJump$Parser" (9 : Nat)) ∈ TBG := inG1 (i := 73) rfl rfl
theorem q_74 : (Jvm.Cond.methodLink "WindJump" (27 : Nat) ({ cls := "WindJump$Parser", name := "<init>", desc := "(LWindJump$Tokens;)V" } : Jvm.MethodName)) ∈ TBG := inG1 (i := 74) rfl rfl
theorem q_107 : (Jvm.Cond.classLink "WindJump" (34 : Nat) "WindJump$Text") ∈ TBG := inG1 (i := 107) rfl rfl
theorem q_108 : (Jvm.Cond.instantiable "WindJump$Text" (18 : Nat)) ∈ TBG := inG1 (i := 108) rfl rfl
theorem q_109 : (Jvm.Cond.methodLinkNest "WindJump" (36 : Nat) ({ cls := "WindJump$Text", name := "<init>", desc := "()V" } : Jvm.MethodName) "WindJump") ∈ NWL := inN1 (i := 109) rfl rfl
theorem q_287 : (Jvm.Cond.classLink "WindJump" (44 : Nat) "WindJump$Flight") ∈ TBG := inG2 (i := 47) rfl rfl
theorem q_288 : (Jvm.Cond.instantiable "WindJump$Flight" (8 : Nat)) ∈ TBG := inG2 (i := 48) rfl rfl
theorem q_289 : (Jvm.Cond.methodLink "WindJump" (46 : Nat) ({ cls := "WindJump$Flight", name := "<init>", desc := "(LWindJump$Text;)V" } : Jvm.MethodName)) ∈ TBG := inG2 (i := 49) rfl rfl
theorem q_329 : (Jvm.Cond.classLink "WindJump" (53 : Nat) "WindJump$Play") ∈ TBG := inG2 (i := 89) rfl rfl
theorem q_330 : (Jvm.Cond.instantiable "WindJump$Play" (9 : Nat)) ∈ TBG := inG2 (i := 90) rfl rfl
theorem q_331 : (Jvm.Cond.methodLink "WindJump" (55 : Nat) ({ cls := "WindJump$Play", name := "<init>", desc := "(LWindJump$Text;)V" } : Jvm.MethodName)) ∈ TBG := inG2 (i := 91) rfl rfl
theorem q_368 : (Jvm.Cond.classLink "WindJump" (63 : Nat) "WindJump$Kept") ∈ TBG := inG2 (i := 128) rfl rfl
theorem q_369 : (Jvm.Cond.instantiable "WindJump$Kept" (3 : Nat)) ∈ TBG := inG2 (i := 129) rfl rfl
theorem q_370 : (Jvm.Cond.methodLinkNest "WindJump" (65 : Nat) ({ cls := "WindJump$Kept", name := "<init>", desc := "()V" } : Jvm.MethodName) "WindJump") ∈ NWL := inN2 (i := 130) rfl rfl
theorem q_387 : (Jvm.Cond.classLink "WindJump" (70 : Nat) "WindJump$Slots") ∈ TBG := inG2 (i := 147) rfl rfl
theorem q_388 : (Jvm.Cond.instantiable "WindJump$Slots" (2 : Nat)) ∈ TBG := inG2 (i := 148) rfl rfl
theorem q_389 : (Jvm.Cond.methodLinkNest "WindJump" (72 : Nat) ({ cls := "WindJump$Slots", name := "<init>", desc := "()V" } : Jvm.MethodName) "WindJump") ∈ NWL := inN2 (i := 149) rfl rfl
theorem q_402 : (Jvm.Cond.classLink "WindJump" (77 : Nat) "WindJump$Told") ∈ TBG := inG2 (i := 162) rfl rfl
theorem q_403 : (Jvm.Cond.instantiable "WindJump$Told" (4 : Nat)) ∈ TBG := inG2 (i := 163) rfl rfl
theorem q_404 : (Jvm.Cond.methodLinkNest "WindJump" (79 : Nat) ({ cls := "WindJump$Told", name := "<init>", desc := "()V" } : Jvm.MethodName) "WindJump") ∈ NWL := inN2 (i := 164) rfl rfl
theorem q_425 : (Jvm.Cond.methodLink "WindJump" (92 : Nat) ({ cls := "WindJump$Text", name := "clear", desc := "()V" } : Jvm.MethodName)) ∈ TBG := inG2 (i := 185) rfl rfl
theorem q_440 : (Jvm.Cond.methodLink "WindJump" (95 : Nat) ({ cls := "WindJump$Text", name := "fillUntold", desc := "()V" } : Jvm.MethodName)) ∈ TBG := inG2 (i := 200) rfl rfl
theorem q_1185 : (Jvm.Cond.instanceMethod ({ cls := "WindJumpModel", name := "<init>", desc := "()V" } : Jvm.MethodName)) ∈ TBG := inG5 (i := 225) rfl rfl
theorem q_1186 : (Jvm.Cond.code ({ cls := "WindJumpModel", name := "<init>", desc := "()V" } : Jvm.MethodName) prog_14_method_2_code (1 : Nat) (Option.none : Option Jvm.ClassFile.FieldType)) ∈ TBG := inG5 (i := 226) rfl rfl
theorem q_1187 : (Jvm.Cond.methodLink "WindJumpModel" (7 : Nat) ({ cls := "java/lang/Object", name := "<init>", desc := "()V" } : Jvm.MethodName)) ∈ TBG := inG5 (i := 227) rfl rfl
theorem q_1192 : (Jvm.Cond.methodLink "WindJumpModel" (141 : Nat) ({ cls := "WindJumpModel", name := "word", desc := "(IIIIIII)J" } : Jvm.MethodName)) ∈ TBG := inG5 (i := 232) rfl rfl
theorem q_1431 : (Jvm.Cond.arrayClass Jvm.ClassFile.FieldType.long) ∈ TBG := inG6 (i := 231) rfl rfl
set_option maxRecDepth 20000 in
theorem v_11_initT {adA ads : Nat → Nat} (had : ad = mkad adA ads 150) (X : CXq p s m args meth c cX11_init 1 yX11_init.cls ad cy D A s.heap) (hr : meth.sig.returnType = none) {w : Mem} {Q : Mem → Prop} {Qu : UG → Prop} (hQ : ∀ u, Q u → Qu (adA, SRN 150, cmb u wm, wl0)) (h : wp_11_initT w Q) : V p l e (RG 4 149 24479) s m args below meth c 1 ad cy D A s.heap 149 24479 (MQ below (va_Qv Qu (BGn cy D A 150) A) args s 149 24479 A) w wm wl0 158 [(0, .ref (ad 0))] [] := by
  unfold wp_11_initT at h
  refine V_aload_n X (i := 0) 0 dX11_init_158 rfl rfl ?_
  refine G_11_41 X dX11_init_159 ?_
  refine K_8_clear X (Or.inl q_425) inst_Text_48 h ⟨Nat.le_of_ble_eq_true rfl, Nat.le_of_ble_eq_true rfl⟩ ⟨Nat.le_of_ble_eq_true rfl, Nat.le_of_ble_eq_true rfl⟩ (st1 := []) (Nat.le_of_ble_eq_true rfl) dX11_init_162 (fun w1 h => ?_)
  refine V_aload_n X (i := 0) 0 dX11_init_165 rfl rfl ?_
  refine G_11_41 X dX11_init_166 ?_
  refine K_8_fillUntold X (Or.inl q_440) inst_Text_48 h ⟨Nat.le_of_ble_eq_true rfl, Nat.le_of_ble_eq_true rfl⟩ ⟨Nat.le_of_ble_eq_true rfl, Nat.le_of_ble_eq_true rfl⟩ (st1 := []) (Nat.le_of_ble_eq_true rfl) dX11_init_169 (fun w2 h => ?_)
  refine V_aload_n X (i := 0) 0 dX11_init_172 rfl rfl ?_
  refine K_11_beginAnew X (Or.inl q_458) h ⟨Nat.le_of_ble_eq_true rfl, Nat.le_of_ble_eq_true rfl⟩ ⟨Nat.le_of_ble_eq_true rfl, Nat.le_of_ble_eq_true rfl⟩ (st1 := []) (Nat.le_of_ble_eq_true rfl) dX11_init_173 (fun w3 h => ?_)
  subst had
  exact V_gret X hr (by decide) dX11_init_176 (hQ _ h)
def rfF_11 : RFq := (strf (strf (rfo_10_145 (strf (rfo_6_139 (strf (rfo_1_97 (strf (rfo_5_93 (strf (rfo_5_89 (strf (rfo_0_87 (strf (rfo_8_48 (strf (rfo_8_9 (strf (rfo_3_7 (strf (rfo_9_3 (strf (rfo_7_1 rfZ) 0 0 1)) 0 1 3)) 0 2 7)) 0 3 9)) 0 4 48)) 0 5 87)) 0 6 89)) 0 7 93)) 0 8 97)) 0 9 139)) 0 10 145) 0 11 149)
set_option maxRecDepth 20000 in
theorem rfb_11 : ∀ k, k < 150 → SK k < 13 → ∀ i, i < 72 → SRq k i = none ∨ rfF_11 k i = SRq k i := by decide +kernel
theorem rfr_11 : ∀ k, k < 150 → SK k < 13 → ∀ i r, SRq k i = some r → rfF_11 k i = some r := by
  intro k hk hs i r h
  rcases Nat.lt_or_ge i 72 with hi | hi
  · rcases rfb_11 k hk hs i hi with h1 | h1
    · rw [h1] at h
      cases h
    · rw [h1]
      exact h
  · rw [SR_hi (by omega) hi] at h
    cases h
def wI_11 : Mem := (st wZ 0 12 (-1 : Int32))
theorem wI_11_c : wI_11 = cmb wI_11 wZ := by
  funext k i
  unfold cmb
  by_cases h : k < 150
  · rw [if_pos h]
  · rw [if_neg h]
    have h0 : k ≠ 0 := by omega
    simp [wI_11, st, wZ, h0]
def Qu11 (ad : Nat → Nat) (Q : Mem → Prop) : UG → Prop := fun u => (∀ k, k < 1 → u.1 k = ad k) ∧ u.2.1 = SRN 150 ∧ u.2.2.2 = wlZ ∧ ∃ w1, u.2.2.1 = cmb w1 wZ ∧ Q w1
theorem mfi_11 : MFI yX11_init cX11_init 1 0 := ⟨q_26, q_25, q_1, rfl, by decide⟩
set_option maxRecDepth 20000 in
theorem ci_11 (l : Launch) {ad ads : Nat → Nat} {cy : Nat → ClassId} {D : va_G} {Q : Mem → Prop} (h : wp_11_initT wI_11 Q) (hok : OKR 1 rfZ wZ wlZ) (hgk : GOK 1) (sz : Nat) : Met l yX11_init (TBq yX11_init cX11_init 1 none) (RG 4 149 24479) (va_Pc [.ref (ad 0)] (fun U => U.heap.size = sz ∧ PG ad cy D rfZ 1 wZ wlZ U ∧ STR ads (AGc ad 1 sz) U U.heap)) (va_Qv (Qu11 ad Q) (BGn cy D (AGc ad 1 sz) 150) (AGc ad 1 sz)) 149 24479 (AGc ad 1 sz) := by
  refine MG_enterS (by decide) (Nat.le_of_ble_eq_true rfl) hok hgk (fun p e s m args below meth c X hst hr hin => ?_)
  show VG p l e _ s m args below meth c 1 ad cy D _ _ 0 0 _ rfZ 1 wZ wlZ 0 [(0, .ref (ad 0))] []
  refine VG_aload_n X (i := 0) 0 dX11_init_0 rfl rfl ?_
  refine VG_objInit X q_27 q_28 q_29 dX11_init_1 (Nat.le_of_ble_eq_true rfl) (by decide) ?_
  refine VG_aload_n X (i := 0) 0 dX11_init_4 rfl rfl ?_
  refine VG_new X (rfl : vwCl[7]? = some (RX7, TX7, 2)) uin_7 tyX7 tyX7_ok q_30 q_31 q_2 rfl (by decide) rfl (by decide +kernel) (Nat.le_of_ble_eq_true rfl) (Nat.le_of_ble_eq_true rfl) dX11_init_5 (fun ad1 hx1 => ?_)
  rw [← hx1 0 (by decide)]
  refine VG_dup X dX11_init_8 rfl ?_
  refine VG_call X (k := 1) (As := []) (st1 := [.ref (ad1 1), .ref (ad1 0)]) mfi_7 (Or.inr ⟨_, q_32⟩) (fun hok hgk sz => ci_7_1 l hok hgk sz) (GOKx 3 (by decide)) rfl ⟨rfl, rfl⟩ ⟨Nat.le_of_ble_eq_true rfl, Nat.le_of_ble_eq_true rfl⟩ ⟨(Nat.le_of_ble_eq_true rfl), (Nat.le_of_ble_eq_true rfl)⟩ rfl (Nat.le_of_ble_eq_true rfl) dX11_init_9 (fun ad2 rf2 w2 wl2 hx2 hq => ?_)
  obtain ⟨e1, e2, e3⟩ := hq
  subst e1 e2 e3
  rw [← hx2 0 (by decide), ← hx2 1 (by decide)]
  refine VG_putR X (rfl : vwCl[11]? = some (RX11, TX11, 13)) uin_11 (i := 0) (by decide) rfl (by decide) rfl rfl (by decide) tyX11 tyX11_ok nmX11 (rfl : SRq 0 0 = some 1) (by decide) rfl hin rfl (tyX11_ok 0 (by decide)) rfl rfl q_475 dX11_init_12 ?_
  refine VG_aload_n X (i := 0) 0 dX11_init_15 rfl rfl ?_
  refine VG_new X (rfl : vwCl[9]? = some (RX9, TX9, 5)) uin_9 tyX9 tyX9_ok q_46 q_47 q_3 rfl (by decide) rfl (by decide +kernel) (Nat.le_of_ble_eq_true rfl) (Nat.le_of_ble_eq_true rfl) dX11_init_16 (fun ad3 hx3 => ?_)
  rw [← hx3 0 (by decide)]
  refine VG_dup X dX11_init_19 rfl ?_
  refine VG_aload_n X (i := 0) 0 dX11_init_20 rfl rfl ?_
  refine VG_getR X (rfl : vwCl[11]? = some (RX11, TX11, 13)) uin_11 (i := 0) (by decide) rfl (by decide) rfl rfl (by decide) (rfl : SRq 0 0 = some 1) (r := 1) (by simp [strf, rfo_7_1]) q_475 dX11_init_21 ?_
  refine VG_call X (k := 3) (As := [.ref (ad3 1)]) (st1 := [.ref (ad3 3), .ref (ad3 0)]) mfi_9 (Or.inl q_48) (fun hok hgk sz => ci_9_3 l hok hgk sz) (GOKx 7 (by decide)) rfl ⟨rfl, rfl⟩ ⟨Nat.le_of_ble_eq_true rfl, Nat.le_of_ble_eq_true rfl⟩ ⟨(Nat.le_of_ble_eq_true rfl), (Nat.le_of_ble_eq_true rfl)⟩ rfl (Nat.le_of_ble_eq_true rfl) dX11_init_24 (fun ad4 rf4 w4 wl4 hx4 hq => ?_)
  obtain ⟨e1, e2, e3⟩ := hq
  subst e1 e2 e3
  rw [← hx4 0 (by decide), ← hx4 3 (by decide)]
  refine VG_putR X (rfl : vwCl[11]? = some (RX11, TX11, 13)) uin_11 (i := 1) (by decide) rfl (by decide) rfl rfl (by decide) tyX11 tyX11_ok nmX11 (rfl : SRq 0 1 = some 3) (by decide) rfl hin rfl (tyX11_ok 1 (by decide)) rfl rfl q_476 dX11_init_27 ?_
  refine VG_aload_n X (i := 0) 0 dX11_init_30 rfl rfl ?_
  refine VG_new X (rfl : vwCl[3]? = some (RX3, TX3, 9)) uin_3 tyX3 tyX3_ok q_72 q_73 q_4 rfl (by decide) rfl (by decide +kernel) (Nat.le_of_ble_eq_true rfl) (Nat.le_of_ble_eq_true rfl) dX11_init_31 (fun ad5 hx5 => ?_)
  rw [← hx5 0 (by decide)]
  refine VG_dup X dX11_init_34 rfl ?_
  refine VG_aload_n X (i := 0) 0 dX11_init_35 rfl rfl ?_
  refine VG_getR X (rfl : vwCl[11]? = some (RX11, TX11, 13)) uin_11 (i := 1) (by decide) rfl (by decide) rfl rfl (by decide) (rfl : SRq 0 1 = some 3) (r := 3) (by simp [strf, rfo_7_1, rfo_9_3]) q_476 dX11_init_36 ?_
  refine VG_call X (k := 7) (As := [.ref (ad5 3)]) (st1 := [.ref (ad5 7), .ref (ad5 0)]) mfi_3 (Or.inl q_74) (fun hok hgk sz => ci_3_7 l hok hgk sz) (GOKx 9 (by decide)) rfl ⟨rfl, rfl⟩ ⟨Nat.le_of_ble_eq_true rfl, Nat.le_of_ble_eq_true rfl⟩ ⟨(Nat.le_of_ble_eq_true rfl), (Nat.le_of_ble_eq_true rfl)⟩ rfl (Nat.le_of_ble_eq_true rfl) dX11_init_39 (fun ad6 rf6 w6 wl6 hx6 hq => ?_)
  obtain ⟨e1, e2, e3⟩ := hq
  subst e1 e2 e3
  rw [← hx6 0 (by decide), ← hx6 7 (by decide)]
  refine VG_putR X (rfl : vwCl[11]? = some (RX11, TX11, 13)) uin_11 (i := 2) (by decide) rfl (by decide) rfl rfl (by decide) tyX11 tyX11_ok nmX11 (rfl : SRq 0 2 = some 7) (by decide) rfl hin rfl (tyX11_ok 2 (by decide)) rfl rfl q_477 dX11_init_42 ?_
  refine VG_aload_n X (i := 0) 0 dX11_init_45 rfl rfl ?_
  refine VG_new X (rfl : vwCl[8]? = some (RX8, TX8, 18)) uin_8 tyX8 tyX8_ok q_107 q_108 q_5 rfl (by decide) rfl (by decide +kernel) (Nat.le_of_ble_eq_true rfl) (Nat.le_of_ble_eq_true rfl) dX11_init_46 (fun ad7 hx7 => ?_)
  rw [← hx7 0 (by decide)]
  refine VG_dup X dX11_init_49 rfl ?_
  refine VG_call X (k := 9) (As := []) (st1 := [.ref (ad7 9), .ref (ad7 0)]) mfi_8 (Or.inr ⟨_, q_109⟩) (fun hok hgk sz => ci_8_9 l hok hgk sz) (GOKx 48 (by decide)) rfl ⟨rfl, rfl⟩ ⟨Nat.le_of_ble_eq_true rfl, Nat.le_of_ble_eq_true rfl⟩ ⟨(Nat.le_of_ble_eq_true rfl), (Nat.le_of_ble_eq_true rfl)⟩ rfl (Nat.le_of_ble_eq_true rfl) dX11_init_50 (fun ad8 rf8 w8 wl8 hx8 hq => ?_)
  obtain ⟨e1, e2, e3⟩ := hq
  subst e1 e2 e3
  rw [← hx8 0 (by decide), ← hx8 9 (by decide)]
  refine VG_putR X (rfl : vwCl[11]? = some (RX11, TX11, 13)) uin_11 (i := 3) (by decide) rfl (by decide) rfl rfl (by decide) tyX11 tyX11_ok nmX11 (rfl : SRq 0 3 = some 9) (by decide) rfl hin rfl (tyX11_ok 3 (by decide)) rfl rfl q_478 dX11_init_53 ?_
  refine VG_aload_n X (i := 0) 0 dX11_init_56 rfl rfl ?_
  refine VG_new X (rfl : vwCl[8]? = some (RX8, TX8, 18)) uin_8 tyX8 tyX8_ok q_107 q_108 q_5 rfl (by decide) rfl (by decide +kernel) (Nat.le_of_ble_eq_true rfl) (Nat.le_of_ble_eq_true rfl) dX11_init_57 (fun ad9 hx9 => ?_)
  rw [← hx9 0 (by decide)]
  refine VG_dup X dX11_init_60 rfl ?_
  refine VG_call X (k := 48) (As := []) (st1 := [.ref (ad9 48), .ref (ad9 0)]) mfi_8 (Or.inr ⟨_, q_109⟩) (fun hok hgk sz => ci_8_48 l hok hgk sz) (GOKx 87 (by decide)) rfl ⟨rfl, rfl⟩ ⟨Nat.le_of_ble_eq_true rfl, Nat.le_of_ble_eq_true rfl⟩ ⟨(Nat.le_of_ble_eq_true rfl), (Nat.le_of_ble_eq_true rfl)⟩ rfl (Nat.le_of_ble_eq_true rfl) dX11_init_61 (fun ad10 rf10 w10 wl10 hx10 hq => ?_)
  obtain ⟨e1, e2, e3⟩ := hq
  subst e1 e2 e3
  rw [← hx10 0 (by decide), ← hx10 48 (by decide)]
  refine VG_putR X (rfl : vwCl[11]? = some (RX11, TX11, 13)) uin_11 (i := 4) (by decide) rfl (by decide) rfl rfl (by decide) tyX11 tyX11_ok nmX11 (rfl : SRq 0 4 = some 48) (by decide) rfl hin rfl (tyX11_ok 4 (by decide)) rfl rfl q_479 dX11_init_64 ?_
  refine VG_aload_n X (i := 0) 0 dX11_init_67 rfl rfl ?_
  refine VG_new X (rfl : vwCl[0]? = some (RX0, TX0, 8)) uin_0 tyX0 tyX0_ok q_287 q_288 q_8 rfl (by decide) rfl (by decide +kernel) (Nat.le_of_ble_eq_true rfl) (Nat.le_of_ble_eq_true rfl) dX11_init_68 (fun ad11 hx11 => ?_)
  rw [← hx11 0 (by decide)]
  refine VG_dup X dX11_init_71 rfl ?_
  refine VG_aload_n X (i := 0) 0 dX11_init_72 rfl rfl ?_
  refine VG_getR X (rfl : vwCl[11]? = some (RX11, TX11, 13)) uin_11 (i := 4) (by decide) rfl (by decide) rfl rfl (by decide) (rfl : SRq 0 4 = some 48) (r := 48) (by simp [strf, rfo_3_7, rfo_7_1, rfo_8_48, rfo_8_9, rfo_9_3]) q_479 dX11_init_73 ?_
  refine VG_call X (k := 87) (As := [.ref (ad11 48)]) (st1 := [.ref (ad11 87), .ref (ad11 0)]) mfi_0 (Or.inl q_289) (fun hok hgk sz => ci_0_87 l hok hgk sz) (GOKx 89 (by decide)) rfl ⟨rfl, rfl⟩ ⟨Nat.le_of_ble_eq_true rfl, Nat.le_of_ble_eq_true rfl⟩ ⟨(Nat.le_of_ble_eq_true rfl), (Nat.le_of_ble_eq_true rfl)⟩ rfl (Nat.le_of_ble_eq_true rfl) dX11_init_76 (fun ad12 rf12 w12 wl12 hx12 hq => ?_)
  obtain ⟨e1, e2, e3⟩ := hq
  subst e1 e2 e3
  rw [← hx12 0 (by decide), ← hx12 87 (by decide)]
  refine VG_putR X (rfl : vwCl[11]? = some (RX11, TX11, 13)) uin_11 (i := 5) (by decide) rfl (by decide) rfl rfl (by decide) tyX11 tyX11_ok nmX11 (rfl : SRq 0 5 = some 87) (by decide) rfl hin rfl (tyX11_ok 5 (by decide)) rfl rfl q_480 dX11_init_79 ?_
  refine VG_aload_n X (i := 0) 0 dX11_init_82 rfl rfl ?_
  refine VG_new X (rfl : vwCl[5]? = some (RX5, TX5, 9)) uin_5 tyX5 tyX5_ok q_329 q_330 q_9 rfl (by decide) rfl (by decide +kernel) (Nat.le_of_ble_eq_true rfl) (Nat.le_of_ble_eq_true rfl) dX11_init_83 (fun ad13 hx13 => ?_)
  rw [← hx13 0 (by decide)]
  refine VG_dup X dX11_init_86 rfl ?_
  refine VG_aload_n X (i := 0) 0 dX11_init_87 rfl rfl ?_
  refine VG_getR X (rfl : vwCl[11]? = some (RX11, TX11, 13)) uin_11 (i := 4) (by decide) rfl (by decide) rfl rfl (by decide) (rfl : SRq 0 4 = some 48) (r := 48) (by simp [strf, rfo_0_87, rfo_3_7, rfo_7_1, rfo_8_48, rfo_8_9, rfo_9_3]) q_479 dX11_init_88 ?_
  refine VG_call X (k := 89) (As := [.ref (ad13 48)]) (st1 := [.ref (ad13 89), .ref (ad13 0)]) mfi_5 (Or.inl q_331) (fun hok hgk sz => ci_5_89 l hok hgk sz) (GOKx 93 (by decide)) rfl ⟨rfl, rfl⟩ ⟨Nat.le_of_ble_eq_true rfl, Nat.le_of_ble_eq_true rfl⟩ ⟨(Nat.le_of_ble_eq_true rfl), (Nat.le_of_ble_eq_true rfl)⟩ rfl (Nat.le_of_ble_eq_true rfl) dX11_init_91 (fun ad14 rf14 w14 wl14 hx14 hq => ?_)
  obtain ⟨e1, e2, e3⟩ := hq
  subst e1 e2 e3
  rw [← hx14 0 (by decide), ← hx14 89 (by decide)]
  refine VG_putR X (rfl : vwCl[11]? = some (RX11, TX11, 13)) uin_11 (i := 6) (by decide) rfl (by decide) rfl rfl (by decide) tyX11 tyX11_ok nmX11 (rfl : SRq 0 6 = some 89) (by decide) rfl hin rfl (tyX11_ok 6 (by decide)) rfl rfl q_481 dX11_init_94 ?_
  refine VG_aload_n X (i := 0) 0 dX11_init_97 rfl rfl ?_
  refine VG_new X (rfl : vwCl[5]? = some (RX5, TX5, 9)) uin_5 tyX5 tyX5_ok q_329 q_330 q_9 rfl (by decide) rfl (by decide +kernel) (Nat.le_of_ble_eq_true rfl) (Nat.le_of_ble_eq_true rfl) dX11_init_98 (fun ad15 hx15 => ?_)
  rw [← hx15 0 (by decide)]
  refine VG_dup X dX11_init_101 rfl ?_
  refine VG_aload_n X (i := 0) 0 dX11_init_102 rfl rfl ?_
  refine VG_getR X (rfl : vwCl[11]? = some (RX11, TX11, 13)) uin_11 (i := 4) (by decide) rfl (by decide) rfl rfl (by decide) (rfl : SRq 0 4 = some 48) (r := 48) (by simp [strf, rfo_0_87, rfo_3_7, rfo_5_89, rfo_7_1, rfo_8_48, rfo_8_9, rfo_9_3]) q_479 dX11_init_103 ?_
  refine VG_call X (k := 93) (As := [.ref (ad15 48)]) (st1 := [.ref (ad15 93), .ref (ad15 0)]) mfi_5 (Or.inl q_331) (fun hok hgk sz => ci_5_93 l hok hgk sz) (GOKx 97 (by decide)) rfl ⟨rfl, rfl⟩ ⟨Nat.le_of_ble_eq_true rfl, Nat.le_of_ble_eq_true rfl⟩ ⟨(Nat.le_of_ble_eq_true rfl), (Nat.le_of_ble_eq_true rfl)⟩ rfl (Nat.le_of_ble_eq_true rfl) dX11_init_106 (fun ad16 rf16 w16 wl16 hx16 hq => ?_)
  obtain ⟨e1, e2, e3⟩ := hq
  subst e1 e2 e3
  rw [← hx16 0 (by decide), ← hx16 93 (by decide)]
  refine VG_putR X (rfl : vwCl[11]? = some (RX11, TX11, 13)) uin_11 (i := 7) (by decide) rfl (by decide) rfl rfl (by decide) tyX11 tyX11_ok nmX11 (rfl : SRq 0 7 = some 93) (by decide) rfl hin rfl (tyX11_ok 7 (by decide)) rfl rfl q_482 dX11_init_109 ?_
  refine VG_aload_n X (i := 0) 0 dX11_init_112 rfl rfl ?_
  refine VG_new X (rfl : vwCl[1]? = some (RX1, TX1, 3)) uin_1 tyX1 tyX1_ok q_368 q_369 q_10 rfl (by decide) rfl (by decide +kernel) (Nat.le_of_ble_eq_true rfl) (Nat.le_of_ble_eq_true rfl) dX11_init_113 (fun ad17 hx17 => ?_)
  rw [← hx17 0 (by decide)]
  refine VG_dup X dX11_init_116 rfl ?_
  refine VG_call X (k := 97) (As := []) (st1 := [.ref (ad17 97), .ref (ad17 0)]) mfi_1 (Or.inr ⟨_, q_370⟩) (fun hok hgk sz => ci_1_97 l hok hgk sz) (GOKx 139 (by decide)) rfl ⟨rfl, rfl⟩ ⟨Nat.le_of_ble_eq_true rfl, Nat.le_of_ble_eq_true rfl⟩ ⟨(Nat.le_of_ble_eq_true rfl), (Nat.le_of_ble_eq_true rfl)⟩ rfl (Nat.le_of_ble_eq_true rfl) dX11_init_117 (fun ad18 rf18 w18 wl18 hx18 hq => ?_)
  obtain ⟨e1, e2, e3⟩ := hq
  subst e1 e2 e3
  rw [← hx18 0 (by decide), ← hx18 97 (by decide)]
  refine VG_putR X (rfl : vwCl[11]? = some (RX11, TX11, 13)) uin_11 (i := 8) (by decide) rfl (by decide) rfl rfl (by decide) tyX11 tyX11_ok nmX11 (rfl : SRq 0 8 = some 97) (by decide) rfl hin rfl (tyX11_ok 8 (by decide)) rfl rfl q_483 dX11_init_120 ?_
  refine VG_aload_n X (i := 0) 0 dX11_init_123 rfl rfl ?_
  refine VG_new X (rfl : vwCl[6]? = some (RX6, TX6, 2)) uin_6 tyX6 tyX6_ok q_387 q_388 q_11 rfl (by decide) rfl (by decide +kernel) (Nat.le_of_ble_eq_true rfl) (Nat.le_of_ble_eq_true rfl) dX11_init_124 (fun ad19 hx19 => ?_)
  rw [← hx19 0 (by decide)]
  refine VG_dup X dX11_init_127 rfl ?_
  refine VG_call X (k := 139) (As := []) (st1 := [.ref (ad19 139), .ref (ad19 0)]) mfi_6 (Or.inr ⟨_, q_389⟩) (fun hok hgk sz => ci_6_139 l hok hgk sz) (GOKx 145 (by decide)) rfl ⟨rfl, rfl⟩ ⟨Nat.le_of_ble_eq_true rfl, Nat.le_of_ble_eq_true rfl⟩ ⟨(Nat.le_of_ble_eq_true rfl), (Nat.le_of_ble_eq_true rfl)⟩ rfl (Nat.le_of_ble_eq_true rfl) dX11_init_128 (fun ad20 rf20 w20 wl20 hx20 hq => ?_)
  obtain ⟨e1, e2, e3⟩ := hq
  subst e1 e2 e3
  rw [← hx20 0 (by decide), ← hx20 139 (by decide)]
  refine VG_putR X (rfl : vwCl[11]? = some (RX11, TX11, 13)) uin_11 (i := 9) (by decide) rfl (by decide) rfl rfl (by decide) tyX11 tyX11_ok nmX11 (rfl : SRq 0 9 = some 139) (by decide) rfl hin rfl (tyX11_ok 9 (by decide)) rfl rfl q_484 dX11_init_131 ?_
  refine VG_aload_n X (i := 0) 0 dX11_init_134 rfl rfl ?_
  refine VG_new X (rfl : vwCl[10]? = some (RX10, TX10, 4)) uin_10 tyX10 tyX10_ok q_402 q_403 q_12 rfl (by decide) rfl (by decide +kernel) (Nat.le_of_ble_eq_true rfl) (Nat.le_of_ble_eq_true rfl) dX11_init_135 (fun ad21 hx21 => ?_)
  rw [← hx21 0 (by decide)]
  refine VG_dup X dX11_init_138 rfl ?_
  refine VG_call X (k := 145) (As := []) (st1 := [.ref (ad21 145), .ref (ad21 0)]) mfi_10 (Or.inr ⟨_, q_404⟩) (fun hok hgk sz => ci_10_145 l hok hgk sz) (GOKx 149 (by decide)) rfl ⟨rfl, rfl⟩ ⟨Nat.le_of_ble_eq_true rfl, Nat.le_of_ble_eq_true rfl⟩ ⟨(Nat.le_of_ble_eq_true rfl), (Nat.le_of_ble_eq_true rfl)⟩ rfl (Nat.le_of_ble_eq_true rfl) dX11_init_139 (fun ad22 rf22 w22 wl22 hx22 hq => ?_)
  obtain ⟨e1, e2, e3⟩ := hq
  subst e1 e2 e3
  rw [← hx22 0 (by decide), ← hx22 145 (by decide)]
  refine VG_putR X (rfl : vwCl[11]? = some (RX11, TX11, 13)) uin_11 (i := 10) (by decide) rfl (by decide) rfl rfl (by decide) tyX11 tyX11_ok nmX11 (rfl : SRq 0 10 = some 145) (by decide) rfl hin rfl (tyX11_ok 10 (by decide)) rfl rfl q_485 dX11_init_142 ?_
  refine VG_aload_n X (i := 0) 0 dX11_init_145 rfl rfl ?_
  refine VG_bipush X (v := (8 : Int32)) dX11_init_146 (by decide) ?_
  refine VG_newaI X (n := 8) (by decide) (by decide) rfl rfl (by decide) q_71 (Nat.le_of_ble_eq_true rfl) (Nat.le_of_ble_eq_true rfl) dX11_init_148 (fun ad23 hx23 => ?_)
  rw [← hx23 0 (by decide)]
  refine VG_putR X (rfl : vwCl[11]? = some (RX11, TX11, 13)) uin_11 (i := 11) (by decide) rfl (by decide) rfl rfl (by decide) tyX11 tyX11_ok nmX11 (rfl : SRq 0 11 = some 149) (by decide) rfl hin rfl (tyX11_ok 11 (by decide)) rfl rfl q_486 dX11_init_150 ?_
  refine VG_aload_n X (i := 0) 0 dX11_init_153 rfl rfl ?_
  refine VG_iconst X (v := (-1 : Int32)) dX11_init_154 (by decide) ?_
  refine VG_putI X (rfl : vwCl[11]? = some (RX11, TX11, 13)) uin_11 (i := 12) (by decide) rfl (by decide) rfl rfl (by decide) tyX11 tyX11_ok nmX11 rfl rfl (tyX11_ok 12 (by decide)) rfl rfl q_487 dX11_init_155 ?_
  intro hok9 hgk9
  exact VGn_toV (ads := ads) (w := wI_11) (wm := wZ) (by decide) (by decide) rfr_11 wI_11_c (fun hi hA => v_11_initT rfl (CX_of X hst hi hA) hr (fun u hu => ⟨fun k hk => (hx23 k (by omega)).trans ((hx22 k (by omega)).trans ((hx21 k (by omega)).trans ((hx20 k (by omega)).trans ((hx19 k (by omega)).trans ((hx18 k (by omega)).trans ((hx17 k (by omega)).trans ((hx16 k (by omega)).trans ((hx15 k (by omega)).trans ((hx14 k (by omega)).trans ((hx13 k (by omega)).trans ((hx12 k (by omega)).trans ((hx11 k (by omega)).trans ((hx10 k (by omega)).trans ((hx9 k (by omega)).trans ((hx8 k (by omega)).trans ((hx7 k (by omega)).trans ((hx6 k (by omega)).trans ((hx5 k (by omega)).trans ((hx4 k (by omega)).trans ((hx3 k (by omega)).trans ((hx2 k (by omega)).trans (hx1 k (by omega))))))))))))))))))))))), rfl, rfl, u, rfl, hu⟩) h)
set_option maxRecDepth 20000 in
theorem v_12_initT {adA ads : Nat → Nat} (had : ad = mkad adA ads 189) (X : CXq p s m args meth c cX12_init 1 yX12_init.cls ad cy D A s.heap) (hr : meth.sig.returnType = none) {w : Mem} {wl : MemL} {Q : Mem → MemL → Prop} {Qu : UG → Prop} (hQ : ∀ u v, Q u v → Qu (adA, SRN 189, cmb wc u, v)) (h : wp_12_initT w wl Q) : V p l e (RG 4 38 21037) s m args below meth c 1 ad cy D A s.heap 38 21037 (MQ below (va_Qv Qu (BGn cy D A 189) A) args s 38 21037 A) wc w wl 333 [(0, .ref (ad 150))] [] := by
  unfold wp_12_initT at h
  have hZ : ad 1000 = 189 := by rw [had]; rfl
  refine V_aload_n X (i := 0) 0 dX12_init_333 rfl rfl ?_
  refine V_iconst X (v := (0 : Int32)) dX12_init_334 (by decide) ?_
  refine K_12_plain X (Or.inl q_1188) hZ h ⟨Nat.le_of_ble_eq_true rfl, Nat.le_of_ble_eq_true rfl⟩ ⟨Nat.le_of_ble_eq_true rfl, Nat.le_of_ble_eq_true rfl⟩ (st1 := []) (Nat.le_of_ble_eq_true rfl) dX12_init_335 (fun w1 v2 h => ?_)
  refine V_aload_n X (i := 0) 0 dX12_init_338 rfl rfl ?_
  refine G_12_34 X hZ dX12_init_339 ?_
  refine V_iconst X (v := (0 : Int32)) dX12_init_342 (by decide) ?_
  refine V_bipush X (v := (104 : Int32)) dX12_init_343 (by decide) ?_
  refine V_bipush X (v := (105 : Int32)) dX12_init_345 (by decide) ?_
  refine V_bipush X (v := (108 : Int32)) dX12_init_347 (by decide) ?_
  refine V_bipush X (v := (108 : Int32)) dX12_init_349 (by decide) ?_
  refine V_iconst X (v := (0 : Int32)) dX12_init_351 (by decide) ?_
  refine V_iconst X (v := (0 : Int32)) dX12_init_352 (by decide) ?_
  refine V_iconst X (v := (0 : Int32)) dX12_init_353 (by decide) ?_
  refine K_12_word X (Or.inl q_1192) hZ h ⟨Nat.le_of_ble_eq_true rfl, Nat.le_of_ble_eq_true rfl⟩ ⟨Nat.le_of_ble_eq_true rfl, Nat.le_of_ble_eq_true rfl⟩ (st1 := [.int (0 : Int32), .ref (ad 157)]) (Nat.le_of_ble_eq_true rfl) dX12_init_354 (fun r4 w3 v5 h => ?_)
  obtain ⟨v6, ev6⟩ : ∃ y : MemL, y = stL v5 157 (ix (0 : Int32)) r4 := ⟨_, rfl⟩
  have h := h v6 ev6
  refine V_last X (rfl : SLq 157 = 29) (hzk hZ (by decide)) (rfl : SK 157 = 15) (vpl (by decide)) dX12_init_357 ev6 ?_
  refine V_aload_n X (i := 0) 0 dX12_init_358 rfl rfl ?_
  refine G_12_34 X hZ dX12_init_359 ?_
  refine V_iconst X (v := (1 : Int32)) dX12_init_362 (by decide) ?_
  refine V_bipush X (v := (119 : Int32)) dX12_init_363 (by decide) ?_
  refine V_bipush X (v := (105 : Int32)) dX12_init_365 (by decide) ?_
  refine V_bipush X (v := (110 : Int32)) dX12_init_367 (by decide) ?_
  refine V_bipush X (v := (100 : Int32)) dX12_init_369 (by decide) ?_
  refine V_iconst X (v := (0 : Int32)) dX12_init_371 (by decide) ?_
  refine V_iconst X (v := (0 : Int32)) dX12_init_372 (by decide) ?_
  refine V_iconst X (v := (0 : Int32)) dX12_init_373 (by decide) ?_
  refine K_12_word X (Or.inl q_1192) hZ h ⟨Nat.le_of_ble_eq_true rfl, Nat.le_of_ble_eq_true rfl⟩ ⟨Nat.le_of_ble_eq_true rfl, Nat.le_of_ble_eq_true rfl⟩ (st1 := [.int (1 : Int32), .ref (ad 157)]) (Nat.le_of_ble_eq_true rfl) dX12_init_374 (fun r8 w7 v9 h => ?_)
  obtain ⟨v10, ev10⟩ : ∃ y : MemL, y = stL v9 157 (ix (1 : Int32)) r8 := ⟨_, rfl⟩
  have h := h v10 ev10
  refine V_last X (rfl : SLq 157 = 29) (hzk hZ (by decide)) (rfl : SK 157 = 15) (vpl (by decide)) dX12_init_377 ev10 ?_
  refine V_aload_n X (i := 0) 0 dX12_init_378 rfl rfl ?_
  refine G_12_34 X hZ dX12_init_379 ?_
  refine V_iconst X (v := (2 : Int32)) dX12_init_382 (by decide) ?_
  refine V_bipush X (v := (102 : Int32)) dX12_init_383 (by decide) ?_
  refine V_bipush X (v := (97 : Int32)) dX12_init_385 (by decide) ?_
  refine V_bipush X (v := (114 : Int32)) dX12_init_387 (by decide) ?_
  refine V_iconst X (v := (0 : Int32)) dX12_init_389 (by decide) ?_
  refine V_iconst X (v := (0 : Int32)) dX12_init_390 (by decide) ?_
  refine V_iconst X (v := (0 : Int32)) dX12_init_391 (by decide) ?_
  refine V_iconst X (v := (0 : Int32)) dX12_init_392 (by decide) ?_
  refine K_12_word X (Or.inl q_1192) hZ h ⟨Nat.le_of_ble_eq_true rfl, Nat.le_of_ble_eq_true rfl⟩ ⟨Nat.le_of_ble_eq_true rfl, Nat.le_of_ble_eq_true rfl⟩ (st1 := [.int (2 : Int32), .ref (ad 157)]) (Nat.le_of_ble_eq_true rfl) dX12_init_393 (fun r12 w11 v13 h => ?_)
  obtain ⟨v14, ev14⟩ : ∃ y : MemL, y = stL v13 157 (ix (2 : Int32)) r12 := ⟨_, rfl⟩
  have h := h v14 ev14
  refine V_last X (rfl : SLq 157 = 29) (hzk hZ (by decide)) (rfl : SK 157 = 15) (vpl (by decide)) dX12_init_396 ev14 ?_
  refine V_aload_n X (i := 0) 0 dX12_init_397 rfl rfl ?_
  refine G_12_34 X hZ dX12_init_398 ?_
  refine V_iconst X (v := (3 : Int32)) dX12_init_401 (by decide) ?_
  refine V_bipush X (v := (103 : Int32)) dX12_init_402 (by decide) ?_
  refine V_bipush X (v := (105 : Int32)) dX12_init_404 (by decide) ?_
  refine V_bipush X (v := (118 : Int32)) dX12_init_406 (by decide) ?_
  refine V_bipush X (v := (101 : Int32)) dX12_init_408 (by decide) ?_
  refine V_bipush X (v := (115 : Int32)) dX12_init_410 (by decide) ?_
  refine V_iconst X (v := (0 : Int32)) dX12_init_412 (by decide) ?_
  refine V_iconst X (v := (0 : Int32)) dX12_init_413 (by decide) ?_
  refine K_12_word X (Or.inl q_1192) hZ h ⟨Nat.le_of_ble_eq_true rfl, Nat.le_of_ble_eq_true rfl⟩ ⟨Nat.le_of_ble_eq_true rfl, Nat.le_of_ble_eq_true rfl⟩ (st1 := [.int (3 : Int32), .ref (ad 157)]) (Nat.le_of_ble_eq_true rfl) dX12_init_414 (fun r16 w15 v17 h => ?_)
  obtain ⟨v18, ev18⟩ : ∃ y : MemL, y = stL v17 157 (ix (3 : Int32)) r16 := ⟨_, rfl⟩
  have h := h v18 ev18
  refine V_last X (rfl : SLq 157 = 29) (hzk hZ (by decide)) (rfl : SK 157 = 15) (vpl (by decide)) dX12_init_417 ev18 ?_
  refine V_aload_n X (i := 0) 0 dX12_init_418 rfl rfl ?_
  refine G_12_34 X hZ dX12_init_419 ?_
  refine V_iconst X (v := (4 : Int32)) dX12_init_422 (by decide) ?_
  refine V_bipush X (v := (115 : Int32)) dX12_init_423 (by decide) ?_
  refine V_bipush X (v := (116 : Int32)) dX12_init_425 (by decide) ?_
  refine V_bipush X (v := (121 : Int32)) dX12_init_427 (by decide) ?_
  refine V_bipush X (v := (108 : Int32)) dX12_init_429 (by decide) ?_
  refine V_bipush X (v := (101 : Int32)) dX12_init_431 (by decide) ?_
  refine V_iconst X (v := (0 : Int32)) dX12_init_433 (by decide) ?_
  refine V_iconst X (v := (0 : Int32)) dX12_init_434 (by decide) ?_
  refine K_12_word X (Or.inl q_1192) hZ h ⟨Nat.le_of_ble_eq_true rfl, Nat.le_of_ble_eq_true rfl⟩ ⟨Nat.le_of_ble_eq_true rfl, Nat.le_of_ble_eq_true rfl⟩ (st1 := [.int (4 : Int32), .ref (ad 157)]) (Nat.le_of_ble_eq_true rfl) dX12_init_435 (fun r20 w19 v21 h => ?_)
  obtain ⟨v22, ev22⟩ : ∃ y : MemL, y = stL v21 157 (ix (4 : Int32)) r20 := ⟨_, rfl⟩
  have h := h v22 ev22
  refine V_last X (rfl : SLq 157 = 29) (hzk hZ (by decide)) (rfl : SK 157 = 15) (vpl (by decide)) dX12_init_438 ev22 ?_
  refine V_aload_n X (i := 0) 0 dX12_init_439 rfl rfl ?_
  refine G_12_34 X hZ dX12_init_440 ?_
  refine V_iconst X (v := (5 : Int32)) dX12_init_443 (by decide) ?_
  refine V_bipush X (v := (103 : Int32)) dX12_init_444 (by decide) ?_
  refine V_bipush X (v := (111 : Int32)) dX12_init_446 (by decide) ?_
  refine V_bipush X (v := (101 : Int32)) dX12_init_448 (by decide) ?_
  refine V_bipush X (v := (115 : Int32)) dX12_init_450 (by decide) ?_
  refine V_iconst X (v := (0 : Int32)) dX12_init_452 (by decide) ?_
  refine V_iconst X (v := (0 : Int32)) dX12_init_453 (by decide) ?_
  refine V_iconst X (v := (0 : Int32)) dX12_init_454 (by decide) ?_
  refine K_12_word X (Or.inl q_1192) hZ h ⟨Nat.le_of_ble_eq_true rfl, Nat.le_of_ble_eq_true rfl⟩ ⟨Nat.le_of_ble_eq_true rfl, Nat.le_of_ble_eq_true rfl⟩ (st1 := [.int (5 : Int32), .ref (ad 157)]) (Nat.le_of_ble_eq_true rfl) dX12_init_455 (fun r24 w23 v25 h => ?_)
  obtain ⟨v26, ev26⟩ : ∃ y : MemL, y = stL v25 157 (ix (5 : Int32)) r24 := ⟨_, rfl⟩
  have h := h v26 ev26
  refine V_last X (rfl : SLq 157 = 29) (hzk hZ (by decide)) (rfl : SK 157 = 15) (vpl (by decide)) dX12_init_458 ev26 ?_
  refine V_aload_n X (i := 0) 0 dX12_init_459 rfl rfl ?_
  refine G_12_34 X hZ dX12_init_460 ?_
  refine V_bipush X (v := (6 : Int32)) dX12_init_463 (by decide) ?_
  refine V_bipush X (v := (112 : Int32)) dX12_init_465 (by decide) ?_
  refine V_bipush X (v := (97 : Int32)) dX12_init_467 (by decide) ?_
  refine V_bipush X (v := (114 : Int32)) dX12_init_469 (by decide) ?_
  refine V_bipush X (v := (116 : Int32)) dX12_init_471 (by decide) ?_
  refine V_bipush X (v := (115 : Int32)) dX12_init_473 (by decide) ?_
  refine V_iconst X (v := (0 : Int32)) dX12_init_475 (by decide) ?_
  refine V_iconst X (v := (0 : Int32)) dX12_init_476 (by decide) ?_
  refine K_12_word X (Or.inl q_1192) hZ h ⟨Nat.le_of_ble_eq_true rfl, Nat.le_of_ble_eq_true rfl⟩ ⟨Nat.le_of_ble_eq_true rfl, Nat.le_of_ble_eq_true rfl⟩ (st1 := [.int (6 : Int32), .ref (ad 157)]) (Nat.le_of_ble_eq_true rfl) dX12_init_477 (fun r28 w27 v29 h => ?_)
  obtain ⟨v30, ev30⟩ : ∃ y : MemL, y = stL v29 157 (ix (6 : Int32)) r28 := ⟨_, rfl⟩
  have h := h v30 ev30
  refine V_last X (rfl : SLq 157 = 29) (hzk hZ (by decide)) (rfl : SK 157 = 15) (vpl (by decide)) dX12_init_480 ev30 ?_
  refine V_aload_n X (i := 0) 0 dX12_init_481 rfl rfl ?_
  refine G_12_34 X hZ dX12_init_482 ?_
  refine V_bipush X (v := (7 : Int32)) dX12_init_485 (by decide) ?_
  refine V_bipush X (v := (109 : Int32)) dX12_init_487 (by decide) ?_
  refine V_bipush X (v := (97 : Int32)) dX12_init_489 (by decide) ?_
  refine V_bipush X (v := (110 : Int32)) dX12_init_491 (by decide) ?_
  refine V_iconst X (v := (0 : Int32)) dX12_init_493 (by decide) ?_
  refine V_iconst X (v := (0 : Int32)) dX12_init_494 (by decide) ?_
  refine V_iconst X (v := (0 : Int32)) dX12_init_495 (by decide) ?_
  refine V_iconst X (v := (0 : Int32)) dX12_init_496 (by decide) ?_
  refine K_12_word X (Or.inl q_1192) hZ h ⟨Nat.le_of_ble_eq_true rfl, Nat.le_of_ble_eq_true rfl⟩ ⟨Nat.le_of_ble_eq_true rfl, Nat.le_of_ble_eq_true rfl⟩ (st1 := [.int (7 : Int32), .ref (ad 157)]) (Nat.le_of_ble_eq_true rfl) dX12_init_497 (fun r32 w31 v33 h => ?_)
  obtain ⟨v34, ev34⟩ : ∃ y : MemL, y = stL v33 157 (ix (7 : Int32)) r32 := ⟨_, rfl⟩
  have h := h v34 ev34
  refine V_last X (rfl : SLq 157 = 29) (hzk hZ (by decide)) (rfl : SK 157 = 15) (vpl (by decide)) dX12_init_500 ev34 ?_
  refine V_aload_n X (i := 0) 0 dX12_init_501 rfl rfl ?_
  refine G_12_34 X hZ dX12_init_502 ?_
  refine V_bipush X (v := (8 : Int32)) dX12_init_505 (by decide) ?_
  refine V_bipush X (v := (106 : Int32)) dX12_init_507 (by decide) ?_
  refine V_bipush X (v := (117 : Int32)) dX12_init_509 (by decide) ?_
  refine V_bipush X (v := (100 : Int32)) dX12_init_511 (by decide) ?_
  refine V_bipush X (v := (103 : Int32)) dX12_init_513 (by decide) ?_
  refine V_bipush X (v := (101 : Int32)) dX12_init_515 (by decide) ?_
  refine V_iconst X (v := (0 : Int32)) dX12_init_517 (by decide) ?_
  refine V_iconst X (v := (0 : Int32)) dX12_init_518 (by decide) ?_
  refine K_12_word X (Or.inl q_1192) hZ h ⟨Nat.le_of_ble_eq_true rfl, Nat.le_of_ble_eq_true rfl⟩ ⟨Nat.le_of_ble_eq_true rfl, Nat.le_of_ble_eq_true rfl⟩ (st1 := [.int (8 : Int32), .ref (ad 157)]) (Nat.le_of_ble_eq_true rfl) dX12_init_519 (fun r36 w35 v37 h => ?_)
  obtain ⟨v38, ev38⟩ : ∃ y : MemL, y = stL v37 157 (ix (8 : Int32)) r36 := ⟨_, rfl⟩
  have h := h v38 ev38
  refine V_last X (rfl : SLq 157 = 29) (hzk hZ (by decide)) (rfl : SK 157 = 15) (vpl (by decide)) dX12_init_522 ev38 ?_
  refine V_aload_n X (i := 0) 0 dX12_init_523 rfl rfl ?_
  refine G_12_34 X hZ dX12_init_524 ?_
  refine V_bipush X (v := (9 : Int32)) dX12_init_527 (by decide) ?_
  refine V_bipush X (v := (115 : Int32)) dX12_init_529 (by decide) ?_
  refine V_bipush X (v := (110 : Int32)) dX12_init_531 (by decide) ?_
  refine V_bipush X (v := (111 : Int32)) dX12_init_533 (by decide) ?_
  refine V_bipush X (v := (119 : Int32)) dX12_init_535 (by decide) ?_
  refine V_iconst X (v := (0 : Int32)) dX12_init_537 (by decide) ?_
  refine V_iconst X (v := (0 : Int32)) dX12_init_538 (by decide) ?_
  refine V_iconst X (v := (0 : Int32)) dX12_init_539 (by decide) ?_
  refine K_12_word X (Or.inl q_1192) hZ h ⟨Nat.le_of_ble_eq_true rfl, Nat.le_of_ble_eq_true rfl⟩ ⟨Nat.le_of_ble_eq_true rfl, Nat.le_of_ble_eq_true rfl⟩ (st1 := [.int (9 : Int32), .ref (ad 157)]) (Nat.le_of_ble_eq_true rfl) dX12_init_540 (fun r40 w39 v41 h => ?_)
  obtain ⟨v42, ev42⟩ : ∃ y : MemL, y = stL v41 157 (ix (9 : Int32)) r40 := ⟨_, rfl⟩
  have h := h v42 ev42
  refine V_last X (rfl : SLq 157 = 29) (hzk hZ (by decide)) (rfl : SK 157 = 15) (vpl (by decide)) dX12_init_543 ev42 ?_
  refine V_aload_n X (i := 0) 0 dX12_init_544 rfl rfl ?_
  refine G_12_34 X hZ dX12_init_545 ?_
  refine V_bipush X (v := (10 : Int32)) dX12_init_548 (by decide) ?_
  refine V_bipush X (v := (103 : Int32)) dX12_init_550 (by decide) ?_
  refine V_bipush X (v := (117 : Int32)) dX12_init_552 (by decide) ?_
  refine V_bipush X (v := (115 : Int32)) dX12_init_554 (by decide) ?_
  refine V_bipush X (v := (116 : Int32)) dX12_init_556 (by decide) ?_
  refine V_bipush X (v := (115 : Int32)) dX12_init_558 (by decide) ?_
  refine V_iconst X (v := (0 : Int32)) dX12_init_560 (by decide) ?_
  refine V_iconst X (v := (0 : Int32)) dX12_init_561 (by decide) ?_
  refine K_12_word X (Or.inl q_1192) hZ h ⟨Nat.le_of_ble_eq_true rfl, Nat.le_of_ble_eq_true rfl⟩ ⟨Nat.le_of_ble_eq_true rfl, Nat.le_of_ble_eq_true rfl⟩ (st1 := [.int (10 : Int32), .ref (ad 157)]) (Nat.le_of_ble_eq_true rfl) dX12_init_562 (fun r44 w43 v45 h => ?_)
  obtain ⟨v46, ev46⟩ : ∃ y : MemL, y = stL v45 157 (ix (10 : Int32)) r44 := ⟨_, rfl⟩
  have h := h v46 ev46
  refine V_last X (rfl : SLq 157 = 29) (hzk hZ (by decide)) (rfl : SK 157 = 15) (vpl (by decide)) dX12_init_565 ev46 ?_
  refine V_aload_n X (i := 0) 0 dX12_init_566 rfl rfl ?_
  refine G_12_34 X hZ dX12_init_567 ?_
  refine V_bipush X (v := (11 : Int32)) dX12_init_570 (by decide) ?_
  refine V_bipush X (v := (119 : Int32)) dX12_init_572 (by decide) ?_
  refine V_bipush X (v := (97 : Int32)) dX12_init_574 (by decide) ?_
  refine V_bipush X (v := (105 : Int32)) dX12_init_576 (by decide) ?_
  refine V_bipush X (v := (116 : Int32)) dX12_init_578 (by decide) ?_
  refine V_bipush X (v := (115 : Int32)) dX12_init_580 (by decide) ?_
  refine V_iconst X (v := (0 : Int32)) dX12_init_582 (by decide) ?_
  refine V_iconst X (v := (0 : Int32)) dX12_init_583 (by decide) ?_
  refine K_12_word X (Or.inl q_1192) hZ h ⟨Nat.le_of_ble_eq_true rfl, Nat.le_of_ble_eq_true rfl⟩ ⟨Nat.le_of_ble_eq_true rfl, Nat.le_of_ble_eq_true rfl⟩ (st1 := [.int (11 : Int32), .ref (ad 157)]) (Nat.le_of_ble_eq_true rfl) dX12_init_584 (fun r48 w47 v49 h => ?_)
  obtain ⟨v50, ev50⟩ : ∃ y : MemL, y = stL v49 157 (ix (11 : Int32)) r48 := ⟨_, rfl⟩
  have h := h v50 ev50
  refine V_last X (rfl : SLq 157 = 29) (hzk hZ (by decide)) (rfl : SK 157 = 15) (vpl (by decide)) dX12_init_587 ev50 ?_
  refine V_aload_n X (i := 0) 0 dX12_init_588 rfl rfl ?_
  refine G_12_34 X hZ dX12_init_589 ?_
  refine V_bipush X (v := (12 : Int32)) dX12_init_592 (by decide) ?_
  refine V_bipush X (v := (103 : Int32)) dX12_init_594 (by decide) ?_
  refine V_bipush X (v := (97 : Int32)) dX12_init_596 (by decide) ?_
  refine V_bipush X (v := (116 : Int32)) dX12_init_598 (by decide) ?_
  refine V_bipush X (v := (101 : Int32)) dX12_init_600 (by decide) ?_
  refine V_iconst X (v := (0 : Int32)) dX12_init_602 (by decide) ?_
  refine V_iconst X (v := (0 : Int32)) dX12_init_603 (by decide) ?_
  refine V_iconst X (v := (0 : Int32)) dX12_init_604 (by decide) ?_
  refine K_12_word X (Or.inl q_1192) hZ h ⟨Nat.le_of_ble_eq_true rfl, Nat.le_of_ble_eq_true rfl⟩ ⟨Nat.le_of_ble_eq_true rfl, Nat.le_of_ble_eq_true rfl⟩ (st1 := [.int (12 : Int32), .ref (ad 157)]) (Nat.le_of_ble_eq_true rfl) dX12_init_605 (fun r52 w51 v53 h => ?_)
  obtain ⟨v54, ev54⟩ : ∃ y : MemL, y = stL v53 157 (ix (12 : Int32)) r52 := ⟨_, rfl⟩
  have h := h v54 ev54
  refine V_last X (rfl : SLq 157 = 29) (hzk hZ (by decide)) (rfl : SK 157 = 15) (vpl (by decide)) dX12_init_608 ev54 ?_
  refine V_aload_n X (i := 0) 0 dX12_init_609 rfl rfl ?_
  refine G_12_34 X hZ dX12_init_610 ?_
  refine V_bipush X (v := (13 : Int32)) dX12_init_613 (by decide) ?_
  refine V_bipush X (v := (115 : Int32)) dX12_init_615 (by decide) ?_
  refine V_bipush X (v := (101 : Int32)) dX12_init_617 (by decide) ?_
  refine V_bipush X (v := (99 : Int32)) dX12_init_619 (by decide) ?_
  refine V_bipush X (v := (111 : Int32)) dX12_init_621 (by decide) ?_
  refine V_bipush X (v := (110 : Int32)) dX12_init_623 (by decide) ?_
  refine V_bipush X (v := (100 : Int32)) dX12_init_625 (by decide) ?_
  refine V_iconst X (v := (0 : Int32)) dX12_init_627 (by decide) ?_
  refine K_12_word X (Or.inl q_1192) hZ h ⟨Nat.le_of_ble_eq_true rfl, Nat.le_of_ble_eq_true rfl⟩ ⟨Nat.le_of_ble_eq_true rfl, Nat.le_of_ble_eq_true rfl⟩ (st1 := [.int (13 : Int32), .ref (ad 157)]) (Nat.le_of_ble_eq_true rfl) dX12_init_628 (fun r56 w55 v57 h => ?_)
  obtain ⟨v58, ev58⟩ : ∃ y : MemL, y = stL v57 157 (ix (13 : Int32)) r56 := ⟨_, rfl⟩
  have h := h v58 ev58
  refine V_last X (rfl : SLq 157 = 29) (hzk hZ (by decide)) (rfl : SK 157 = 15) (vpl (by decide)) dX12_init_631 ev58 ?_
  refine V_aload_n X (i := 0) 0 dX12_init_632 rfl rfl ?_
  refine G_12_34 X hZ dX12_init_633 ?_
  refine V_bipush X (v := (14 : Int32)) dX12_init_636 (by decide) ?_
  refine V_bipush X (v := (115 : Int32)) dX12_init_638 (by decide) ?_
  refine V_bipush X (v := (101 : Int32)) dX12_init_640 (by decide) ?_
  refine V_bipush X (v := (101 : Int32)) dX12_init_642 (by decide) ?_
  refine V_bipush X (v := (100 : Int32)) dX12_init_644 (by decide) ?_
  refine V_iconst X (v := (0 : Int32)) dX12_init_646 (by decide) ?_
  refine V_iconst X (v := (0 : Int32)) dX12_init_647 (by decide) ?_
  refine V_iconst X (v := (0 : Int32)) dX12_init_648 (by decide) ?_
  refine K_12_word X (Or.inl q_1192) hZ h ⟨Nat.le_of_ble_eq_true rfl, Nat.le_of_ble_eq_true rfl⟩ ⟨Nat.le_of_ble_eq_true rfl, Nat.le_of_ble_eq_true rfl⟩ (st1 := [.int (14 : Int32), .ref (ad 157)]) (Nat.le_of_ble_eq_true rfl) dX12_init_649 (fun r60 w59 v61 h => ?_)
  obtain ⟨v62, ev62⟩ : ∃ y : MemL, y = stL v61 157 (ix (14 : Int32)) r60 := ⟨_, rfl⟩
  have h := h v62 ev62
  refine V_last X (rfl : SLq 157 = 29) (hzk hZ (by decide)) (rfl : SK 157 = 15) (vpl (by decide)) dX12_init_652 ev62 ?_
  refine V_aload_n X (i := 0) 0 dX12_init_653 rfl rfl ?_
  refine G_12_34 X hZ dX12_init_654 ?_
  refine V_bipush X (v := (15 : Int32)) dX12_init_657 (by decide) ?_
  refine V_bipush X (v := (105 : Int32)) dX12_init_659 (by decide) ?_
  refine V_bipush X (v := (102 : Int32)) dX12_init_661 (by decide) ?_
  refine V_iconst X (v := (0 : Int32)) dX12_init_663 (by decide) ?_
  refine V_iconst X (v := (0 : Int32)) dX12_init_664 (by decide) ?_
  refine V_iconst X (v := (0 : Int32)) dX12_init_665 (by decide) ?_
  refine V_iconst X (v := (0 : Int32)) dX12_init_666 (by decide) ?_
  refine V_iconst X (v := (0 : Int32)) dX12_init_667 (by decide) ?_
  refine K_12_word X (Or.inl q_1192) hZ h ⟨Nat.le_of_ble_eq_true rfl, Nat.le_of_ble_eq_true rfl⟩ ⟨Nat.le_of_ble_eq_true rfl, Nat.le_of_ble_eq_true rfl⟩ (st1 := [.int (15 : Int32), .ref (ad 157)]) (Nat.le_of_ble_eq_true rfl) dX12_init_668 (fun r64 w63 v65 h => ?_)
  obtain ⟨v66, ev66⟩ : ∃ y : MemL, y = stL v65 157 (ix (15 : Int32)) r64 := ⟨_, rfl⟩
  have h := h v66 ev66
  refine V_last X (rfl : SLq 157 = 29) (hzk hZ (by decide)) (rfl : SK 157 = 15) (vpl (by decide)) dX12_init_671 ev66 ?_
  refine V_aload_n X (i := 0) 0 dX12_init_672 rfl rfl ?_
  refine G_12_34 X hZ dX12_init_673 ?_
  refine V_bipush X (v := (16 : Int32)) dX12_init_676 (by decide) ?_
  refine V_bipush X (v := (116 : Int32)) dX12_init_678 (by decide) ?_
  refine V_bipush X (v := (104 : Int32)) dX12_init_680 (by decide) ?_
  refine V_bipush X (v := (101 : Int32)) dX12_init_682 (by decide) ?_
  refine V_bipush X (v := (110 : Int32)) dX12_init_684 (by decide) ?_
  refine V_iconst X (v := (0 : Int32)) dX12_init_686 (by decide) ?_
  refine V_iconst X (v := (0 : Int32)) dX12_init_687 (by decide) ?_
  refine V_iconst X (v := (0 : Int32)) dX12_init_688 (by decide) ?_
  refine K_12_word X (Or.inl q_1192) hZ h ⟨Nat.le_of_ble_eq_true rfl, Nat.le_of_ble_eq_true rfl⟩ ⟨Nat.le_of_ble_eq_true rfl, Nat.le_of_ble_eq_true rfl⟩ (st1 := [.int (16 : Int32), .ref (ad 157)]) (Nat.le_of_ble_eq_true rfl) dX12_init_689 (fun r68 w67 v69 h => ?_)
  obtain ⟨v70, ev70⟩ : ∃ y : MemL, y = stL v69 157 (ix (16 : Int32)) r68 := ⟨_, rfl⟩
  have h := h v70 ev70
  refine V_last X (rfl : SLq 157 = 29) (hzk hZ (by decide)) (rfl : SK 157 = 15) (vpl (by decide)) dX12_init_692 ev70 ?_
  refine V_aload_n X (i := 0) 0 dX12_init_693 rfl rfl ?_
  refine G_12_34 X hZ dX12_init_694 ?_
  refine V_bipush X (v := (17 : Int32)) dX12_init_697 (by decide) ?_
  refine V_bipush X (v := (101 : Int32)) dX12_init_699 (by decide) ?_
  refine V_bipush X (v := (108 : Int32)) dX12_init_701 (by decide) ?_
  refine V_bipush X (v := (115 : Int32)) dX12_init_703 (by decide) ?_
  refine V_bipush X (v := (101 : Int32)) dX12_init_705 (by decide) ?_
  refine V_iconst X (v := (0 : Int32)) dX12_init_707 (by decide) ?_
  refine V_iconst X (v := (0 : Int32)) dX12_init_708 (by decide) ?_
  refine V_iconst X (v := (0 : Int32)) dX12_init_709 (by decide) ?_
  refine K_12_word X (Or.inl q_1192) hZ h ⟨Nat.le_of_ble_eq_true rfl, Nat.le_of_ble_eq_true rfl⟩ ⟨Nat.le_of_ble_eq_true rfl, Nat.le_of_ble_eq_true rfl⟩ (st1 := [.int (17 : Int32), .ref (ad 157)]) (Nat.le_of_ble_eq_true rfl) dX12_init_710 (fun r72 w71 v73 h => ?_)
  obtain ⟨v74, ev74⟩ : ∃ y : MemL, y = stL v73 157 (ix (17 : Int32)) r72 := ⟨_, rfl⟩
  have h := h v74 ev74
  refine V_last X (rfl : SLq 157 = 29) (hzk hZ (by decide)) (rfl : SK 157 = 15) (vpl (by decide)) dX12_init_713 ev74 ?_
  refine V_aload_n X (i := 0) 0 dX12_init_714 rfl rfl ?_
  refine G_12_34 X hZ dX12_init_715 ?_
  refine V_bipush X (v := (18 : Int32)) dX12_init_718 (by decide) ?_
  refine V_bipush X (v := (97 : Int32)) dX12_init_720 (by decide) ?_
  refine V_bipush X (v := (116 : Int32)) dX12_init_722 (by decide) ?_
  refine V_iconst X (v := (0 : Int32)) dX12_init_724 (by decide) ?_
  refine V_iconst X (v := (0 : Int32)) dX12_init_725 (by decide) ?_
  refine V_iconst X (v := (0 : Int32)) dX12_init_726 (by decide) ?_
  refine V_iconst X (v := (0 : Int32)) dX12_init_727 (by decide) ?_
  refine V_iconst X (v := (0 : Int32)) dX12_init_728 (by decide) ?_
  refine K_12_word X (Or.inl q_1192) hZ h ⟨Nat.le_of_ble_eq_true rfl, Nat.le_of_ble_eq_true rfl⟩ ⟨Nat.le_of_ble_eq_true rfl, Nat.le_of_ble_eq_true rfl⟩ (st1 := [.int (18 : Int32), .ref (ad 157)]) (Nat.le_of_ble_eq_true rfl) dX12_init_729 (fun r76 w75 v77 h => ?_)
  obtain ⟨v78, ev78⟩ : ∃ y : MemL, y = stL v77 157 (ix (18 : Int32)) r76 := ⟨_, rfl⟩
  have h := h v78 ev78
  refine V_last X (rfl : SLq 157 = 29) (hzk hZ (by decide)) (rfl : SK 157 = 15) (vpl (by decide)) dX12_init_732 ev78 ?_
  refine V_aload_n X (i := 0) 0 dX12_init_733 rfl rfl ?_
  refine G_12_34 X hZ dX12_init_734 ?_
  refine V_bipush X (v := (19 : Int32)) dX12_init_737 (by decide) ?_
  refine V_bipush X (v := (115 : Int32)) dX12_init_739 (by decide) ?_
  refine V_bipush X (v := (101 : Int32)) dX12_init_741 (by decide) ?_
  refine V_bipush X (v := (99 : Int32)) dX12_init_743 (by decide) ?_
  refine V_bipush X (v := (116 : Int32)) dX12_init_745 (by decide) ?_
  refine V_bipush X (v := (105 : Int32)) dX12_init_747 (by decide) ?_
  refine V_bipush X (v := (111 : Int32)) dX12_init_749 (by decide) ?_
  refine V_bipush X (v := (110 : Int32)) dX12_init_751 (by decide) ?_
  refine K_12_word X (Or.inl q_1192) hZ h ⟨Nat.le_of_ble_eq_true rfl, Nat.le_of_ble_eq_true rfl⟩ ⟨Nat.le_of_ble_eq_true rfl, Nat.le_of_ble_eq_true rfl⟩ (st1 := [.int (19 : Int32), .ref (ad 157)]) (Nat.le_of_ble_eq_true rfl) dX12_init_753 (fun r80 w79 v81 h => ?_)
  obtain ⟨v82, ev82⟩ : ∃ y : MemL, y = stL v81 157 (ix (19 : Int32)) r80 := ⟨_, rfl⟩
  have h := h v82 ev82
  refine V_last X (rfl : SLq 157 = 29) (hzk hZ (by decide)) (rfl : SK 157 = 15) (vpl (by decide)) dX12_init_756 ev82 ?_
  refine V_aload_n X (i := 0) 0 dX12_init_757 rfl rfl ?_
  refine G_12_34 X hZ dX12_init_758 ?_
  refine V_bipush X (v := (20 : Int32)) dX12_init_761 (by decide) ?_
  refine V_bipush X (v := (103 : Int32)) dX12_init_763 (by decide) ?_
  refine V_bipush X (v := (117 : Int32)) dX12_init_765 (by decide) ?_
  refine V_bipush X (v := (115 : Int32)) dX12_init_767 (by decide) ?_
  refine V_bipush X (v := (116 : Int32)) dX12_init_769 (by decide) ?_
  refine V_iconst X (v := (0 : Int32)) dX12_init_771 (by decide) ?_
  refine V_iconst X (v := (0 : Int32)) dX12_init_772 (by decide) ?_
  refine V_iconst X (v := (0 : Int32)) dX12_init_773 (by decide) ?_
  refine K_12_word X (Or.inl q_1192) hZ h ⟨Nat.le_of_ble_eq_true rfl, Nat.le_of_ble_eq_true rfl⟩ ⟨Nat.le_of_ble_eq_true rfl, Nat.le_of_ble_eq_true rfl⟩ (st1 := [.int (20 : Int32), .ref (ad 157)]) (Nat.le_of_ble_eq_true rfl) dX12_init_774 (fun r84 w83 v85 h => ?_)
  obtain ⟨v86, ev86⟩ : ∃ y : MemL, y = stL v85 157 (ix (20 : Int32)) r84 := ⟨_, rfl⟩
  have h := h v86 ev86
  refine V_last X (rfl : SLq 157 = 29) (hzk hZ (by decide)) (rfl : SK 157 = 15) (vpl (by decide)) dX12_init_777 ev86 ?_
  refine V_aload_n X (i := 0) 0 dX12_init_778 rfl rfl ?_
  refine G_12_34 X hZ dX12_init_779 ?_
  refine V_bipush X (v := (21 : Int32)) dX12_init_782 (by decide) ?_
  refine V_bipush X (v := (119 : Int32)) dX12_init_784 (by decide) ?_
  refine V_bipush X (v := (101 : Int32)) dX12_init_786 (by decide) ?_
  refine V_bipush X (v := (105 : Int32)) dX12_init_788 (by decide) ?_
  refine V_bipush X (v := (103 : Int32)) dX12_init_790 (by decide) ?_
  refine V_bipush X (v := (104 : Int32)) dX12_init_792 (by decide) ?_
  refine V_bipush X (v := (116 : Int32)) dX12_init_794 (by decide) ?_
  refine V_iconst X (v := (0 : Int32)) dX12_init_796 (by decide) ?_
  refine K_12_word X (Or.inl q_1192) hZ h ⟨Nat.le_of_ble_eq_true rfl, Nat.le_of_ble_eq_true rfl⟩ ⟨Nat.le_of_ble_eq_true rfl, Nat.le_of_ble_eq_true rfl⟩ (st1 := [.int (21 : Int32), .ref (ad 157)]) (Nat.le_of_ble_eq_true rfl) dX12_init_797 (fun r88 w87 v89 h => ?_)
  obtain ⟨v90, ev90⟩ : ∃ y : MemL, y = stL v89 157 (ix (21 : Int32)) r88 := ⟨_, rfl⟩
  have h := h v90 ev90
  refine V_last X (rfl : SLq 157 = 29) (hzk hZ (by decide)) (rfl : SK 157 = 15) (vpl (by decide)) dX12_init_800 ev90 ?_
  refine V_aload_n X (i := 0) 0 dX12_init_801 rfl rfl ?_
  refine G_12_34 X hZ dX12_init_802 ?_
  refine V_bipush X (v := (22 : Int32)) dX12_init_805 (by decide) ?_
  refine V_bipush X (v := (115 : Int32)) dX12_init_807 (by decide) ?_
  refine V_bipush X (v := (107 : Int32)) dX12_init_809 (by decide) ?_
  refine V_bipush X (v := (105 : Int32)) dX12_init_811 (by decide) ?_
  refine V_iconst X (v := (0 : Int32)) dX12_init_813 (by decide) ?_
  refine V_iconst X (v := (0 : Int32)) dX12_init_814 (by decide) ?_
  refine V_iconst X (v := (0 : Int32)) dX12_init_815 (by decide) ?_
  refine V_iconst X (v := (0 : Int32)) dX12_init_816 (by decide) ?_
  refine K_12_word X (Or.inl q_1192) hZ h ⟨Nat.le_of_ble_eq_true rfl, Nat.le_of_ble_eq_true rfl⟩ ⟨Nat.le_of_ble_eq_true rfl, Nat.le_of_ble_eq_true rfl⟩ (st1 := [.int (22 : Int32), .ref (ad 157)]) (Nat.le_of_ble_eq_true rfl) dX12_init_817 (fun r92 w91 v93 h => ?_)
  obtain ⟨v94, ev94⟩ : ∃ y : MemL, y = stL v93 157 (ix (22 : Int32)) r92 := ⟨_, rfl⟩
  have h := h v94 ev94
  refine V_last X (rfl : SLq 157 = 29) (hzk hZ (by decide)) (rfl : SK 157 = 15) (vpl (by decide)) dX12_init_820 ev94 ?_
  refine V_aload_n X (i := 0) 0 dX12_init_821 rfl rfl ?_
  refine G_12_34 X hZ dX12_init_822 ?_
  refine V_bipush X (v := (23 : Int32)) dX12_init_825 (by decide) ?_
  refine V_bipush X (v := (108 : Int32)) dX12_init_827 (by decide) ?_
  refine V_bipush X (v := (97 : Int32)) dX12_init_829 (by decide) ?_
  refine V_bipush X (v := (116 : Int32)) dX12_init_831 (by decide) ?_
  refine V_bipush X (v := (101 : Int32)) dX12_init_833 (by decide) ?_
  refine V_iconst X (v := (0 : Int32)) dX12_init_835 (by decide) ?_
  refine V_iconst X (v := (0 : Int32)) dX12_init_836 (by decide) ?_
  refine V_iconst X (v := (0 : Int32)) dX12_init_837 (by decide) ?_
  refine K_12_word X (Or.inl q_1192) hZ h ⟨Nat.le_of_ble_eq_true rfl, Nat.le_of_ble_eq_true rfl⟩ ⟨Nat.le_of_ble_eq_true rfl, Nat.le_of_ble_eq_true rfl⟩ (st1 := [.int (23 : Int32), .ref (ad 157)]) (Nat.le_of_ble_eq_true rfl) dX12_init_838 (fun r96 w95 v97 h => ?_)
  obtain ⟨v98, ev98⟩ : ∃ y : MemL, y = stL v97 157 (ix (23 : Int32)) r96 := ⟨_, rfl⟩
  have h := h v98 ev98
  refine V_last X (rfl : SLq 157 = 29) (hzk hZ (by decide)) (rfl : SK 157 = 15) (vpl (by decide)) dX12_init_841 ev98 ?_
  refine V_aload_n X (i := 0) 0 dX12_init_842 rfl rfl ?_
  refine G_12_34 X hZ dX12_init_843 ?_
  refine V_bipush X (v := (24 : Int32)) dX12_init_846 (by decide) ?_
  refine V_bipush X (v := (119 : Int32)) dX12_init_848 (by decide) ?_
  refine V_bipush X (v := (104 : Int32)) dX12_init_850 (by decide) ?_
  refine V_bipush X (v := (105 : Int32)) dX12_init_852 (by decide) ?_
  refine V_bipush X (v := (116 : Int32)) dX12_init_854 (by decide) ?_
  refine V_bipush X (v := (101 : Int32)) dX12_init_856 (by decide) ?_
  refine V_iconst X (v := (0 : Int32)) dX12_init_858 (by decide) ?_
  refine V_iconst X (v := (0 : Int32)) dX12_init_859 (by decide) ?_
  refine K_12_word X (Or.inl q_1192) hZ h ⟨Nat.le_of_ble_eq_true rfl, Nat.le_of_ble_eq_true rfl⟩ ⟨Nat.le_of_ble_eq_true rfl, Nat.le_of_ble_eq_true rfl⟩ (st1 := [.int (24 : Int32), .ref (ad 157)]) (Nat.le_of_ble_eq_true rfl) dX12_init_860 (fun r100 w99 v101 h => ?_)
  obtain ⟨v102, ev102⟩ : ∃ y : MemL, y = stL v101 157 (ix (24 : Int32)) r100 := ⟨_, rfl⟩
  have h := h v102 ev102
  refine V_last X (rfl : SLq 157 = 29) (hzk hZ (by decide)) (rfl : SK 157 = 15) (vpl (by decide)) dX12_init_863 ev102 ?_
  refine V_aload_n X (i := 0) 0 dX12_init_864 rfl rfl ?_
  refine G_12_34 X hZ dX12_init_865 ?_
  refine V_bipush X (v := (25 : Int32)) dX12_init_868 (by decide) ?_
  refine V_bipush X (v := (98 : Int32)) dX12_init_870 (by decide) ?_
  refine V_bipush X (v := (97 : Int32)) dX12_init_872 (by decide) ?_
  refine V_bipush X (v := (114 : Int32)) dX12_init_874 (by decide) ?_
  refine V_iconst X (v := (0 : Int32)) dX12_init_876 (by decide) ?_
  refine V_iconst X (v := (0 : Int32)) dX12_init_877 (by decide) ?_
  refine V_iconst X (v := (0 : Int32)) dX12_init_878 (by decide) ?_
  refine V_iconst X (v := (0 : Int32)) dX12_init_879 (by decide) ?_
  refine K_12_word X (Or.inl q_1192) hZ h ⟨Nat.le_of_ble_eq_true rfl, Nat.le_of_ble_eq_true rfl⟩ ⟨Nat.le_of_ble_eq_true rfl, Nat.le_of_ble_eq_true rfl⟩ (st1 := [.int (25 : Int32), .ref (ad 157)]) (Nat.le_of_ble_eq_true rfl) dX12_init_880 (fun r104 w103 v105 h => ?_)
  obtain ⟨v106, ev106⟩ : ∃ y : MemL, y = stL v105 157 (ix (25 : Int32)) r104 := ⟨_, rfl⟩
  have h := h v106 ev106
  refine V_last X (rfl : SLq 157 = 29) (hzk hZ (by decide)) (rfl : SK 157 = 15) (vpl (by decide)) dX12_init_883 ev106 ?_
  refine V_aload_n X (i := 0) 0 dX12_init_884 rfl rfl ?_
  refine G_12_34 X hZ dX12_init_885 ?_
  refine V_bipush X (v := (26 : Int32)) dX12_init_888 (by decide) ?_
  refine V_bipush X (v := (108 : Int32)) dX12_init_890 (by decide) ?_
  refine V_bipush X (v := (101 : Int32)) dX12_init_892 (by decide) ?_
  refine V_bipush X (v := (110 : Int32)) dX12_init_894 (by decide) ?_
  refine V_bipush X (v := (103 : Int32)) dX12_init_896 (by decide) ?_
  refine V_bipush X (v := (116 : Int32)) dX12_init_898 (by decide) ?_
  refine V_bipush X (v := (104 : Int32)) dX12_init_900 (by decide) ?_
  refine V_iconst X (v := (0 : Int32)) dX12_init_902 (by decide) ?_
  refine K_12_word X (Or.inl q_1192) hZ h ⟨Nat.le_of_ble_eq_true rfl, Nat.le_of_ble_eq_true rfl⟩ ⟨Nat.le_of_ble_eq_true rfl, Nat.le_of_ble_eq_true rfl⟩ (st1 := [.int (26 : Int32), .ref (ad 157)]) (Nat.le_of_ble_eq_true rfl) dX12_init_903 (fun r108 w107 v109 h => ?_)
  obtain ⟨v110, ev110⟩ : ∃ y : MemL, y = stL v109 157 (ix (26 : Int32)) r108 := ⟨_, rfl⟩
  have h := h v110 ev110
  refine V_last X (rfl : SLq 157 = 29) (hzk hZ (by decide)) (rfl : SK 157 = 15) (vpl (by decide)) dX12_init_906 ev110 ?_
  refine V_aload_n X (i := 0) 0 dX12_init_907 rfl rfl ?_
  refine G_12_34 X hZ dX12_init_908 ?_
  refine V_bipush X (v := (27 : Int32)) dX12_init_911 (by decide) ?_
  refine V_bipush X (v := (108 : Int32)) dX12_init_913 (by decide) ?_
  refine V_bipush X (v := (101 : Int32)) dX12_init_915 (by decide) ?_
  refine V_bipush X (v := (97 : Int32)) dX12_init_917 (by decide) ?_
  refine V_bipush X (v := (110 : Int32)) dX12_init_919 (by decide) ?_
  refine V_iconst X (v := (0 : Int32)) dX12_init_921 (by decide) ?_
  refine V_iconst X (v := (0 : Int32)) dX12_init_922 (by decide) ?_
  refine V_iconst X (v := (0 : Int32)) dX12_init_923 (by decide) ?_
  refine K_12_word X (Or.inl q_1192) hZ h ⟨Nat.le_of_ble_eq_true rfl, Nat.le_of_ble_eq_true rfl⟩ ⟨Nat.le_of_ble_eq_true rfl, Nat.le_of_ble_eq_true rfl⟩ (st1 := [.int (27 : Int32), .ref (ad 157)]) (Nat.le_of_ble_eq_true rfl) dX12_init_924 (fun r112 w111 v113 h => ?_)
  obtain ⟨v114, ev114⟩ : ∃ y : MemL, y = stL v113 157 (ix (27 : Int32)) r112 := ⟨_, rfl⟩
  have h := h v114 ev114
  refine V_last X (rfl : SLq 157 = 29) (hzk hZ (by decide)) (rfl : SK 157 = 15) (vpl (by decide)) dX12_init_927 ev114 ?_
  refine V_aload_n X (i := 0) 0 dX12_init_928 rfl rfl ?_
  refine G_12_34 X hZ dX12_init_929 ?_
  refine V_bipush X (v := (28 : Int32)) dX12_init_932 (by decide) ?_
  refine V_bipush X (v := (104 : Int32)) dX12_init_934 (by decide) ?_
  refine V_bipush X (v := (111 : Int32)) dX12_init_936 (by decide) ?_
  refine V_bipush X (v := (109 : Int32)) dX12_init_938 (by decide) ?_
  refine V_bipush X (v := (101 : Int32)) dX12_init_940 (by decide) ?_
  refine V_iconst X (v := (0 : Int32)) dX12_init_942 (by decide) ?_
  refine V_iconst X (v := (0 : Int32)) dX12_init_943 (by decide) ?_
  refine V_iconst X (v := (0 : Int32)) dX12_init_944 (by decide) ?_
  refine K_12_word X (Or.inl q_1192) hZ h ⟨Nat.le_of_ble_eq_true rfl, Nat.le_of_ble_eq_true rfl⟩ ⟨Nat.le_of_ble_eq_true rfl, Nat.le_of_ble_eq_true rfl⟩ (st1 := [.int (28 : Int32), .ref (ad 157)]) (Nat.le_of_ble_eq_true rfl) dX12_init_945 (fun r116 w115 v117 h => ?_)
  obtain ⟨v118, ev118⟩ : ∃ y : MemL, y = stL v117 157 (ix (28 : Int32)) r116 := ⟨_, rfl⟩
  have h := h v118 ev118
  refine V_last X (rfl : SLq 157 = 29) (hzk hZ (by decide)) (rfl : SK 157 = 15) (vpl (by decide)) dX12_init_948 ev118 ?_
  refine V_aload_n X (i := 0) 0 dX12_init_949 rfl rfl ?_
  refine K_12_begins X (Or.inl q_1199) hZ h ⟨Nat.le_of_ble_eq_true rfl, Nat.le_of_ble_eq_true rfl⟩ ⟨Nat.le_of_ble_eq_true rfl, Nat.le_of_ble_eq_true rfl⟩ (st1 := []) (Nat.le_of_ble_eq_true rfl) dX12_init_950 (fun w119 v120 h => ?_)
  refine V_aload_n X (i := 0) 0 dX12_init_953 rfl rfl ?_
  refine K_12_keepsRow X (Or.inl q_1211) hZ h ⟨Nat.le_of_ble_eq_true rfl, Nat.le_of_ble_eq_true rfl⟩ ⟨Nat.le_of_ble_eq_true rfl, Nat.le_of_ble_eq_true rfl⟩ (st1 := []) (Nat.le_of_ble_eq_true rfl) dX12_init_954 (fun w121 v122 h => ?_)
  subst had
  exact V_gret X hr (by decide) dX12_init_957 (hQ _ _ h)
def rfF_12 : RFq := (strf (strf (strf (strf (strf (strf (strf (strf (strf (strf (strf (strf (strf (strf (strf (strf (strf (strf (strf (strf (strf (strf (strf (strf (strf (strf (strf (strf (strf (strf (strf (strf (strf (strf (strf (strf (strf (strf (SRN 150) 150 1 151) 150 3 152) 150 5 153) 150 6 154) 150 7 155) 150 8 156) 150 9 157) 150 21 158) 150 22 159) 150 23 160) 150 24 161) 150 25 162) 150 26 163) 150 27 164) 150 28 165) 150 29 166) 150 30 167) 150 31 168) 150 32 169) 150 34 170) 150 35 171) 150 36 172) 150 37 173) 150 38 174) 150 40 175) 150 41 176) 150 42 177) 150 44 178) 150 45 179) 150 47 180) 150 48 181) 150 60 182) 150 65 183) 150 67 184) 150 68 185) 150 69 186) 150 70 187) 150 71 188)
set_option maxRecDepth 20000 in
theorem rfb_12 : ∀ k, k < 189 → SK k < 13 → ∀ i, i < 72 → SRq k i = none ∨ rfF_12 k i = SRq k i := by decide +kernel
theorem rfr_12 : ∀ k, k < 189 → SK k < 13 → ∀ i r, SRq k i = some r → rfF_12 k i = some r := by
  intro k hk hs i r h
  rcases Nat.lt_or_ge i 72 with hi | hi
  · rcases rfb_12 k hk hs i hi with h1 | h1
    · rw [h1] at h
      cases h
    · rw [h1]
      exact h
  · rw [SR_hi (by omega) hi] at h
    cases h
def wI_12 : Mem := (st (st wZ 150 17 (-1 : Int32)) 150 61 (-1 : Int32))
theorem cmb_st {w wm : Mem} {k i : Nat} {v : Int32} (h : 150 ≤ k) : st (cmb w wm) k i v = cmb w (st wm k i v) := by
  funext a j
  by_cases h1 : a = k ∧ j = i
  · obtain ⟨rfl, rfl⟩ := h1
    simp [st, cmb, show ¬ a < 150 by omega]
  · simp [st, cmb, h1]
theorem wI_12_c (wc : Mem) : (st (st (cmb wc wZ) 150 17 (-1 : Int32)) 150 61 (-1 : Int32)) = cmb wc wI_12 := by
  rw [cmb_st (by decide), cmb_st (by decide)]
  rfl
def Qu12 (ad : Nat → Nat) (wc : Mem) (Q : Mem → MemL → Prop) : UG → Prop := fun u => (∀ k, k < 151 → u.1 k = ad k) ∧ u.2.1 = SRN 189 ∧ ∃ w1, u.2.2.1 = cmb wc w1 ∧ Q w1 u.2.2.2
theorem mfi_12 : MFI yX12_init cX12_init 1 0 := ⟨q_1186, q_1185, q_14, rfl, by decide⟩
set_option maxRecDepth 20000 in
theorem ci_12 (l : Launch) {ad ads : Nat → Nat} {cy : Nat → ClassId} {D : va_G} {wc : Mem} {Q : Mem → MemL → Prop} (h : wp_12_initT wI_12 wlZ Q) (hok : OKR 151 (SRN 150) (cmb wc wZ) wlZ) (hgk : GOK 151) (sz : Nat) : Met l yX12_init (TBq yX12_init cX12_init 1 none) (RG 4 38 21037) (va_Pc [.ref (ad 150)] (fun U => U.heap.size = sz ∧ PG ad cy D (SRN 150) 151 (cmb wc wZ) wlZ U ∧ STR ads (AGc ad 151 sz) U U.heap)) (va_Qv (Qu12 ad wc Q) (BGn cy D (AGc ad 151 sz) 189) (AGc ad 151 sz)) 38 21037 (AGc ad 151 sz) := by
  refine MG_enterS (by decide) (Nat.le_of_ble_eq_true rfl) hok hgk (fun p e s m args below meth c X hst hr hin => ?_)
  show VG p l e _ s m args below meth c 1 ad cy D _ _ 0 0 _ (SRN 150) 151 (cmb wc wZ) wlZ 0 [(0, .ref (ad 150))] []
  refine VG_aload_n X (i := 0) 0 dX12_init_0 rfl rfl ?_
  refine VG_objInit X q_1187 q_28 q_29 dX12_init_1 (Nat.le_of_ble_eq_true rfl) (by decide) ?_
  refine VG_aload_n X (i := 0) 0 dX12_init_4 rfl rfl ?_
  refine VG_sipush X (v := (2000 : Int32)) dX12_init_5 (by decide) ?_
  refine VG_newaB X (n := 2000) (by decide) (by decide) rfl rfl (by decide) q_45 (Nat.le_of_ble_eq_true rfl) (Nat.le_of_ble_eq_true rfl) dX12_init_8 (fun ad1 hx1 => ?_)
  rw [← hx1 150 (by decide)]
  refine VG_putR X (rfl : vwCl[12]? = some (RX12, TX12, 72)) uin_12 (i := 1) (by decide) rfl (by decide) rfl rfl (by decide) tyX12 tyX12_ok nmX12 (rfl : SRq 150 1 = some 151) (by decide) rfl hin rfl (tyX12_ok 1 (by decide)) rfl rfl q_1215 dX12_init_10 ?_
  refine VG_aload_n X (i := 0) 0 dX12_init_13 rfl rfl ?_
  refine VG_sipush X (v := (2000 : Int32)) dX12_init_14 (by decide) ?_
  refine VG_newaB X (n := 2000) (by decide) (by decide) rfl rfl (by decide) q_45 (Nat.le_of_ble_eq_true rfl) (Nat.le_of_ble_eq_true rfl) dX12_init_17 (fun ad2 hx2 => ?_)
  rw [← hx2 150 (by decide)]
  refine VG_putR X (rfl : vwCl[12]? = some (RX12, TX12, 72)) uin_12 (i := 3) (by decide) rfl (by decide) rfl rfl (by decide) tyX12 tyX12_ok nmX12 (rfl : SRq 150 3 = some 152) (by decide) rfl hin rfl (tyX12_ok 3 (by decide)) rfl rfl q_1217 dX12_init_19 ?_
  refine VG_aload_n X (i := 0) 0 dX12_init_22 rfl rfl ?_
  refine VG_sipush X (v := (403 : Int32)) dX12_init_23 (by decide) ?_
  refine VG_newaI X (n := 403) (by decide) (by decide) rfl rfl (by decide) q_71 (Nat.le_of_ble_eq_true rfl) (Nat.le_of_ble_eq_true rfl) dX12_init_26 (fun ad3 hx3 => ?_)
  rw [← hx3 150 (by decide)]
  refine VG_putR X (rfl : vwCl[12]? = some (RX12, TX12, 72)) uin_12 (i := 5) (by decide) rfl (by decide) rfl rfl (by decide) tyX12 tyX12_ok nmX12 (rfl : SRq 150 5 = some 153) (by decide) rfl hin rfl (tyX12_ok 5 (by decide)) rfl rfl q_1219 dX12_init_28 ?_
  refine VG_aload_n X (i := 0) 0 dX12_init_31 rfl rfl ?_
  refine VG_sipush X (v := (403 : Int32)) dX12_init_32 (by decide) ?_
  refine VG_newaI X (n := 403) (by decide) (by decide) rfl rfl (by decide) q_71 (Nat.le_of_ble_eq_true rfl) (Nat.le_of_ble_eq_true rfl) dX12_init_35 (fun ad4 hx4 => ?_)
  rw [← hx4 150 (by decide)]
  refine VG_putR X (rfl : vwCl[12]? = some (RX12, TX12, 72)) uin_12 (i := 6) (by decide) rfl (by decide) rfl rfl (by decide) tyX12 tyX12_ok nmX12 (rfl : SRq 150 6 = some 154) (by decide) rfl hin rfl (tyX12_ok 6 (by decide)) rfl rfl q_1220 dX12_init_37 ?_
  refine VG_aload_n X (i := 0) 0 dX12_init_40 rfl rfl ?_
  refine VG_sipush X (v := (403 : Int32)) dX12_init_41 (by decide) ?_
  refine VG_newaI X (n := 403) (by decide) (by decide) rfl rfl (by decide) q_71 (Nat.le_of_ble_eq_true rfl) (Nat.le_of_ble_eq_true rfl) dX12_init_44 (fun ad5 hx5 => ?_)
  rw [← hx5 150 (by decide)]
  refine VG_putR X (rfl : vwCl[12]? = some (RX12, TX12, 72)) uin_12 (i := 7) (by decide) rfl (by decide) rfl rfl (by decide) tyX12 tyX12_ok nmX12 (rfl : SRq 150 7 = some 155) (by decide) rfl hin rfl (tyX12_ok 7 (by decide)) rfl rfl q_1221 dX12_init_46 ?_
  refine VG_aload_n X (i := 0) 0 dX12_init_49 rfl rfl ?_
  refine VG_sipush X (v := (403 : Int32)) dX12_init_50 (by decide) ?_
  refine VG_newaJ X (n := 403) (by decide) (by decide) rfl rfl (by decide) q_1431 (Nat.le_of_ble_eq_true rfl) (Nat.le_of_ble_eq_true rfl) dX12_init_53 (fun ad6 hx6 => ?_)
  rw [← hx6 150 (by decide)]
  refine VG_putR X (rfl : vwCl[12]? = some (RX12, TX12, 72)) uin_12 (i := 8) (by decide) rfl (by decide) rfl rfl (by decide) tyX12 tyX12_ok nmX12 (rfl : SRq 150 8 = some 156) (by decide) rfl hin rfl (tyX12_ok 8 (by decide)) rfl rfl q_1222 dX12_init_55 ?_
  refine VG_aload_n X (i := 0) 0 dX12_init_58 rfl rfl ?_
  refine VG_bipush X (v := (29 : Int32)) dX12_init_59 (by decide) ?_
  refine VG_newaJ X (n := 29) (by decide) (by decide) rfl rfl (by decide) q_1431 (Nat.le_of_ble_eq_true rfl) (Nat.le_of_ble_eq_true rfl) dX12_init_61 (fun ad7 hx7 => ?_)
  rw [← hx7 150 (by decide)]
  refine VG_putR X (rfl : vwCl[12]? = some (RX12, TX12, 72)) uin_12 (i := 9) (by decide) rfl (by decide) rfl rfl (by decide) tyX12 tyX12_ok nmX12 (rfl : SRq 150 9 = some 157) (by decide) rfl hin rfl (tyX12_ok 9 (by decide)) rfl rfl q_1223 dX12_init_63 ?_
  refine VG_aload_n X (i := 0) 0 dX12_init_66 rfl rfl ?_
  refine VG_iconst X (v := (-1 : Int32)) dX12_init_67 (by decide) ?_
  refine VG_putI X (rfl : vwCl[12]? = some (RX12, TX12, 72)) uin_12 (i := 17) (by decide) rfl (by decide) rfl rfl (by decide) tyX12 tyX12_ok nmX12 rfl rfl (tyX12_ok 17 (by decide)) rfl rfl q_1231 dX12_init_68 ?_
  refine VG_aload_n X (i := 0) 0 dX12_init_71 rfl rfl ?_
  refine VG_bipush X (v := (15 : Int32)) dX12_init_72 (by decide) ?_
  refine VG_newaJ X (n := 15) (by decide) (by decide) rfl rfl (by decide) q_1431 (Nat.le_of_ble_eq_true rfl) (Nat.le_of_ble_eq_true rfl) dX12_init_74 (fun ad8 hx8 => ?_)
  rw [← hx8 150 (by decide)]
  refine VG_putR X (rfl : vwCl[12]? = some (RX12, TX12, 72)) uin_12 (i := 21) (by decide) rfl (by decide) rfl rfl (by decide) tyX12 tyX12_ok nmX12 (rfl : SRq 150 21 = some 158) (by decide) rfl hin rfl (tyX12_ok 21 (by decide)) rfl rfl q_1235 dX12_init_76 ?_
  refine VG_aload_n X (i := 0) 0 dX12_init_79 rfl rfl ?_
  refine VG_bipush X (v := (40 : Int32)) dX12_init_80 (by decide) ?_
  refine VG_newaI X (n := 40) (by decide) (by decide) rfl rfl (by decide) q_71 (Nat.le_of_ble_eq_true rfl) (Nat.le_of_ble_eq_true rfl) dX12_init_82 (fun ad9 hx9 => ?_)
  rw [← hx9 150 (by decide)]
  refine VG_putR X (rfl : vwCl[12]? = some (RX12, TX12, 72)) uin_12 (i := 22) (by decide) rfl (by decide) rfl rfl (by decide) tyX12 tyX12_ok nmX12 (rfl : SRq 150 22 = some 159) (by decide) rfl hin rfl (tyX12_ok 22 (by decide)) rfl rfl q_1236 dX12_init_84 ?_
  refine VG_aload_n X (i := 0) 0 dX12_init_87 rfl rfl ?_
  refine VG_iconst X (v := (2 : Int32)) dX12_init_88 (by decide) ?_
  refine VG_newaI X (n := 2) (by decide) (by decide) rfl rfl (by decide) q_71 (Nat.le_of_ble_eq_true rfl) (Nat.le_of_ble_eq_true rfl) dX12_init_89 (fun ad10 hx10 => ?_)
  rw [← hx10 150 (by decide)]
  refine VG_putR X (rfl : vwCl[12]? = some (RX12, TX12, 72)) uin_12 (i := 23) (by decide) rfl (by decide) rfl rfl (by decide) tyX12 tyX12_ok nmX12 (rfl : SRq 150 23 = some 160) (by decide) rfl hin rfl (tyX12_ok 23 (by decide)) rfl rfl q_1237 dX12_init_91 ?_
  refine VG_aload_n X (i := 0) 0 dX12_init_94 rfl rfl ?_
  refine VG_bipush X (v := (16 : Int32)) dX12_init_95 (by decide) ?_
  refine VG_newaI X (n := 16) (by decide) (by decide) rfl rfl (by decide) q_71 (Nat.le_of_ble_eq_true rfl) (Nat.le_of_ble_eq_true rfl) dX12_init_97 (fun ad11 hx11 => ?_)
  rw [← hx11 150 (by decide)]
  refine VG_putR X (rfl : vwCl[12]? = some (RX12, TX12, 72)) uin_12 (i := 24) (by decide) rfl (by decide) rfl rfl (by decide) tyX12 tyX12_ok nmX12 (rfl : SRq 150 24 = some 161) (by decide) rfl hin rfl (tyX12_ok 24 (by decide)) rfl rfl q_1238 dX12_init_99 ?_
  refine VG_aload_n X (i := 0) 0 dX12_init_102 rfl rfl ?_
  refine VG_bipush X (v := (16 : Int32)) dX12_init_103 (by decide) ?_
  refine VG_newaI X (n := 16) (by decide) (by decide) rfl rfl (by decide) q_71 (Nat.le_of_ble_eq_true rfl) (Nat.le_of_ble_eq_true rfl) dX12_init_105 (fun ad12 hx12 => ?_)
  rw [← hx12 150 (by decide)]
  refine VG_putR X (rfl : vwCl[12]? = some (RX12, TX12, 72)) uin_12 (i := 25) (by decide) rfl (by decide) rfl rfl (by decide) tyX12 tyX12_ok nmX12 (rfl : SRq 150 25 = some 162) (by decide) rfl hin rfl (tyX12_ok 25 (by decide)) rfl rfl q_1239 dX12_init_107 ?_
  refine VG_aload_n X (i := 0) 0 dX12_init_110 rfl rfl ?_
  refine VG_bipush X (v := (16 : Int32)) dX12_init_111 (by decide) ?_
  refine VG_newaI X (n := 16) (by decide) (by decide) rfl rfl (by decide) q_71 (Nat.le_of_ble_eq_true rfl) (Nat.le_of_ble_eq_true rfl) dX12_init_113 (fun ad13 hx13 => ?_)
  rw [← hx13 150 (by decide)]
  refine VG_putR X (rfl : vwCl[12]? = some (RX12, TX12, 72)) uin_12 (i := 26) (by decide) rfl (by decide) rfl rfl (by decide) tyX12 tyX12_ok nmX12 (rfl : SRq 150 26 = some 163) (by decide) rfl hin rfl (tyX12_ok 26 (by decide)) rfl rfl q_1240 dX12_init_115 ?_
  refine VG_aload_n X (i := 0) 0 dX12_init_118 rfl rfl ?_
  refine VG_bipush X (v := (16 : Int32)) dX12_init_119 (by decide) ?_
  refine VG_newaI X (n := 16) (by decide) (by decide) rfl rfl (by decide) q_71 (Nat.le_of_ble_eq_true rfl) (Nat.le_of_ble_eq_true rfl) dX12_init_121 (fun ad14 hx14 => ?_)
  rw [← hx14 150 (by decide)]
  refine VG_putR X (rfl : vwCl[12]? = some (RX12, TX12, 72)) uin_12 (i := 27) (by decide) rfl (by decide) rfl rfl (by decide) tyX12 tyX12_ok nmX12 (rfl : SRq 150 27 = some 164) (by decide) rfl hin rfl (tyX12_ok 27 (by decide)) rfl rfl q_1241 dX12_init_123 ?_
  refine VG_aload_n X (i := 0) 0 dX12_init_126 rfl rfl ?_
  refine VG_iconst X (v := (2 : Int32)) dX12_init_127 (by decide) ?_
  refine VG_newaI X (n := 2) (by decide) (by decide) rfl rfl (by decide) q_71 (Nat.le_of_ble_eq_true rfl) (Nat.le_of_ble_eq_true rfl) dX12_init_128 (fun ad15 hx15 => ?_)
  rw [← hx15 150 (by decide)]
  refine VG_putR X (rfl : vwCl[12]? = some (RX12, TX12, 72)) uin_12 (i := 28) (by decide) rfl (by decide) rfl rfl (by decide) tyX12 tyX12_ok nmX12 (rfl : SRq 150 28 = some 165) (by decide) rfl hin rfl (tyX12_ok 28 (by decide)) rfl rfl q_1242 dX12_init_130 ?_
  refine VG_aload_n X (i := 0) 0 dX12_init_133 rfl rfl ?_
  refine VG_bipush X (v := (14 : Int32)) dX12_init_134 (by decide) ?_
  refine VG_newaI X (n := 14) (by decide) (by decide) rfl rfl (by decide) q_71 (Nat.le_of_ble_eq_true rfl) (Nat.le_of_ble_eq_true rfl) dX12_init_136 (fun ad16 hx16 => ?_)
  rw [← hx16 150 (by decide)]
  refine VG_putR X (rfl : vwCl[12]? = some (RX12, TX12, 72)) uin_12 (i := 29) (by decide) rfl (by decide) rfl rfl (by decide) tyX12 tyX12_ok nmX12 (rfl : SRq 150 29 = some 166) (by decide) rfl hin rfl (tyX12_ok 29 (by decide)) rfl rfl q_1243 dX12_init_138 ?_
  refine VG_aload_n X (i := 0) 0 dX12_init_141 rfl rfl ?_
  refine VG_bipush X (v := (14 : Int32)) dX12_init_142 (by decide) ?_
  refine VG_newaI X (n := 14) (by decide) (by decide) rfl rfl (by decide) q_71 (Nat.le_of_ble_eq_true rfl) (Nat.le_of_ble_eq_true rfl) dX12_init_144 (fun ad17 hx17 => ?_)
  rw [← hx17 150 (by decide)]
  refine VG_putR X (rfl : vwCl[12]? = some (RX12, TX12, 72)) uin_12 (i := 30) (by decide) rfl (by decide) rfl rfl (by decide) tyX12 tyX12_ok nmX12 (rfl : SRq 150 30 = some 167) (by decide) rfl hin rfl (tyX12_ok 30 (by decide)) rfl rfl q_1244 dX12_init_146 ?_
  refine VG_aload_n X (i := 0) 0 dX12_init_149 rfl rfl ?_
  refine VG_bipush X (v := (10 : Int32)) dX12_init_150 (by decide) ?_
  refine VG_newaI X (n := 10) (by decide) (by decide) rfl rfl (by decide) q_71 (Nat.le_of_ble_eq_true rfl) (Nat.le_of_ble_eq_true rfl) dX12_init_152 (fun ad18 hx18 => ?_)
  rw [← hx18 150 (by decide)]
  refine VG_putR X (rfl : vwCl[12]? = some (RX12, TX12, 72)) uin_12 (i := 31) (by decide) rfl (by decide) rfl rfl (by decide) tyX12 tyX12_ok nmX12 (rfl : SRq 150 31 = some 168) (by decide) rfl hin rfl (tyX12_ok 31 (by decide)) rfl rfl q_1245 dX12_init_154 ?_
  refine VG_aload_n X (i := 0) 0 dX12_init_157 rfl rfl ?_
  refine VG_bipush X (v := (10 : Int32)) dX12_init_158 (by decide) ?_
  refine VG_newaI X (n := 10) (by decide) (by decide) rfl rfl (by decide) q_71 (Nat.le_of_ble_eq_true rfl) (Nat.le_of_ble_eq_true rfl) dX12_init_160 (fun ad19 hx19 => ?_)
  rw [← hx19 150 (by decide)]
  refine VG_putR X (rfl : vwCl[12]? = some (RX12, TX12, 72)) uin_12 (i := 32) (by decide) rfl (by decide) rfl rfl (by decide) tyX12 tyX12_ok nmX12 (rfl : SRq 150 32 = some 169) (by decide) rfl hin rfl (tyX12_ok 32 (by decide)) rfl rfl q_1246 dX12_init_162 ?_
  refine VG_aload_n X (i := 0) 0 dX12_init_165 rfl rfl ?_
  refine VG_sipush X (v := (260 : Int32)) dX12_init_166 (by decide) ?_
  refine VG_newaZ X (n := 260) (by decide) (by decide) rfl rfl (by decide) q_401 (Nat.le_of_ble_eq_true rfl) (Nat.le_of_ble_eq_true rfl) dX12_init_169 (fun ad20 hx20 => ?_)
  rw [← hx20 150 (by decide)]
  refine VG_putR X (rfl : vwCl[12]? = some (RX12, TX12, 72)) uin_12 (i := 34) (by decide) rfl (by decide) rfl rfl (by decide) tyX12 tyX12_ok nmX12 (rfl : SRq 150 34 = some 170) (by decide) rfl hin rfl (tyX12_ok 34 (by decide)) rfl rfl q_1248 dX12_init_171 ?_
  refine VG_aload_n X (i := 0) 0 dX12_init_174 rfl rfl ?_
  refine VG_sipush X (v := (260 : Int32)) dX12_init_175 (by decide) ?_
  refine VG_newaI X (n := 260) (by decide) (by decide) rfl rfl (by decide) q_71 (Nat.le_of_ble_eq_true rfl) (Nat.le_of_ble_eq_true rfl) dX12_init_178 (fun ad21 hx21 => ?_)
  rw [← hx21 150 (by decide)]
  refine VG_putR X (rfl : vwCl[12]? = some (RX12, TX12, 72)) uin_12 (i := 35) (by decide) rfl (by decide) rfl rfl (by decide) tyX12 tyX12_ok nmX12 (rfl : SRq 150 35 = some 171) (by decide) rfl hin rfl (tyX12_ok 35 (by decide)) rfl rfl q_1249 dX12_init_180 ?_
  refine VG_aload_n X (i := 0) 0 dX12_init_183 rfl rfl ?_
  refine VG_sipush X (v := (260 : Int32)) dX12_init_184 (by decide) ?_
  refine VG_newaI X (n := 260) (by decide) (by decide) rfl rfl (by decide) q_71 (Nat.le_of_ble_eq_true rfl) (Nat.le_of_ble_eq_true rfl) dX12_init_187 (fun ad22 hx22 => ?_)
  rw [← hx22 150 (by decide)]
  refine VG_putR X (rfl : vwCl[12]? = some (RX12, TX12, 72)) uin_12 (i := 36) (by decide) rfl (by decide) rfl rfl (by decide) tyX12 tyX12_ok nmX12 (rfl : SRq 150 36 = some 172) (by decide) rfl hin rfl (tyX12_ok 36 (by decide)) rfl rfl q_1250 dX12_init_189 ?_
  refine VG_aload_n X (i := 0) 0 dX12_init_192 rfl rfl ?_
  refine VG_sipush X (v := (260 : Int32)) dX12_init_193 (by decide) ?_
  refine VG_newaI X (n := 260) (by decide) (by decide) rfl rfl (by decide) q_71 (Nat.le_of_ble_eq_true rfl) (Nat.le_of_ble_eq_true rfl) dX12_init_196 (fun ad23 hx23 => ?_)
  rw [← hx23 150 (by decide)]
  refine VG_putR X (rfl : vwCl[12]? = some (RX12, TX12, 72)) uin_12 (i := 37) (by decide) rfl (by decide) rfl rfl (by decide) tyX12 tyX12_ok nmX12 (rfl : SRq 150 37 = some 173) (by decide) rfl hin rfl (tyX12_ok 37 (by decide)) rfl rfl q_1251 dX12_init_198 ?_
  refine VG_aload_n X (i := 0) 0 dX12_init_201 rfl rfl ?_
  refine VG_sipush X (v := (260 : Int32)) dX12_init_202 (by decide) ?_
  refine VG_newaI X (n := 260) (by decide) (by decide) rfl rfl (by decide) q_71 (Nat.le_of_ble_eq_true rfl) (Nat.le_of_ble_eq_true rfl) dX12_init_205 (fun ad24 hx24 => ?_)
  rw [← hx24 150 (by decide)]
  refine VG_putR X (rfl : vwCl[12]? = some (RX12, TX12, 72)) uin_12 (i := 38) (by decide) rfl (by decide) rfl rfl (by decide) tyX12 tyX12_ok nmX12 (rfl : SRq 150 38 = some 174) (by decide) rfl hin rfl (tyX12_ok 38 (by decide)) rfl rfl q_1252 dX12_init_207 ?_
  refine VG_aload_n X (i := 0) 0 dX12_init_210 rfl rfl ?_
  refine VG_sipush X (v := (840 : Int32)) dX12_init_211 (by decide) ?_
  refine VG_newaI X (n := 840) (by decide) (by decide) rfl rfl (by decide) q_71 (Nat.le_of_ble_eq_true rfl) (Nat.le_of_ble_eq_true rfl) dX12_init_214 (fun ad25 hx25 => ?_)
  rw [← hx25 150 (by decide)]
  refine VG_putR X (rfl : vwCl[12]? = some (RX12, TX12, 72)) uin_12 (i := 40) (by decide) rfl (by decide) rfl rfl (by decide) tyX12 tyX12_ok nmX12 (rfl : SRq 150 40 = some 175) (by decide) rfl hin rfl (tyX12_ok 40 (by decide)) rfl rfl q_1254 dX12_init_216 ?_
  refine VG_aload_n X (i := 0) 0 dX12_init_219 rfl rfl ?_
  refine VG_sipush X (v := (840 : Int32)) dX12_init_220 (by decide) ?_
  refine VG_newaI X (n := 840) (by decide) (by decide) rfl rfl (by decide) q_71 (Nat.le_of_ble_eq_true rfl) (Nat.le_of_ble_eq_true rfl) dX12_init_223 (fun ad26 hx26 => ?_)
  rw [← hx26 150 (by decide)]
  refine VG_putR X (rfl : vwCl[12]? = some (RX12, TX12, 72)) uin_12 (i := 41) (by decide) rfl (by decide) rfl rfl (by decide) tyX12 tyX12_ok nmX12 (rfl : SRq 150 41 = some 176) (by decide) rfl hin rfl (tyX12_ok 41 (by decide)) rfl rfl q_1255 dX12_init_225 ?_
  refine VG_aload_n X (i := 0) 0 dX12_init_228 rfl rfl ?_
  refine VG_bipush X (v := (64 : Int32)) dX12_init_229 (by decide) ?_
  refine VG_newaI X (n := 64) (by decide) (by decide) rfl rfl (by decide) q_71 (Nat.le_of_ble_eq_true rfl) (Nat.le_of_ble_eq_true rfl) dX12_init_231 (fun ad27 hx27 => ?_)
  rw [← hx27 150 (by decide)]
  refine VG_putR X (rfl : vwCl[12]? = some (RX12, TX12, 72)) uin_12 (i := 42) (by decide) rfl (by decide) rfl rfl (by decide) tyX12 tyX12_ok nmX12 (rfl : SRq 150 42 = some 177) (by decide) rfl hin rfl (tyX12_ok 42 (by decide)) rfl rfl q_1256 dX12_init_233 ?_
  refine VG_aload_n X (i := 0) 0 dX12_init_236 rfl rfl ?_
  refine VG_bipush X (v := (11 : Int32)) dX12_init_237 (by decide) ?_
  refine VG_newaI X (n := 11) (by decide) (by decide) rfl rfl (by decide) q_71 (Nat.le_of_ble_eq_true rfl) (Nat.le_of_ble_eq_true rfl) dX12_init_239 (fun ad28 hx28 => ?_)
  rw [← hx28 150 (by decide)]
  refine VG_putR X (rfl : vwCl[12]? = some (RX12, TX12, 72)) uin_12 (i := 44) (by decide) rfl (by decide) rfl rfl (by decide) tyX12 tyX12_ok nmX12 (rfl : SRq 150 44 = some 178) (by decide) rfl hin rfl (tyX12_ok 44 (by decide)) rfl rfl q_1258 dX12_init_241 ?_
  refine VG_aload_n X (i := 0) 0 dX12_init_244 rfl rfl ?_
  refine VG_sipush X (v := (400 : Int32)) dX12_init_245 (by decide) ?_
  refine VG_newaI X (n := 400) (by decide) (by decide) rfl rfl (by decide) q_71 (Nat.le_of_ble_eq_true rfl) (Nat.le_of_ble_eq_true rfl) dX12_init_248 (fun ad29 hx29 => ?_)
  rw [← hx29 150 (by decide)]
  refine VG_putR X (rfl : vwCl[12]? = some (RX12, TX12, 72)) uin_12 (i := 45) (by decide) rfl (by decide) rfl rfl (by decide) tyX12 tyX12_ok nmX12 (rfl : SRq 150 45 = some 179) (by decide) rfl hin rfl (tyX12_ok 45 (by decide)) rfl rfl q_1259 dX12_init_250 ?_
  refine VG_aload_n X (i := 0) 0 dX12_init_253 rfl rfl ?_
  refine VG_sipush X (v := (260 : Int32)) dX12_init_254 (by decide) ?_
  refine VG_newaI X (n := 260) (by decide) (by decide) rfl rfl (by decide) q_71 (Nat.le_of_ble_eq_true rfl) (Nat.le_of_ble_eq_true rfl) dX12_init_257 (fun ad30 hx30 => ?_)
  rw [← hx30 150 (by decide)]
  refine VG_putR X (rfl : vwCl[12]? = some (RX12, TX12, 72)) uin_12 (i := 47) (by decide) rfl (by decide) rfl rfl (by decide) tyX12 tyX12_ok nmX12 (rfl : SRq 150 47 = some 180) (by decide) rfl hin rfl (tyX12_ok 47 (by decide)) rfl rfl q_1261 dX12_init_259 ?_
  refine VG_aload_n X (i := 0) 0 dX12_init_262 rfl rfl ?_
  refine VG_sipush X (v := (260 : Int32)) dX12_init_263 (by decide) ?_
  refine VG_newaI X (n := 260) (by decide) (by decide) rfl rfl (by decide) q_71 (Nat.le_of_ble_eq_true rfl) (Nat.le_of_ble_eq_true rfl) dX12_init_266 (fun ad31 hx31 => ?_)
  rw [← hx31 150 (by decide)]
  refine VG_putR X (rfl : vwCl[12]? = some (RX12, TX12, 72)) uin_12 (i := 48) (by decide) rfl (by decide) rfl rfl (by decide) tyX12 tyX12_ok nmX12 (rfl : SRq 150 48 = some 181) (by decide) rfl hin rfl (tyX12_ok 48 (by decide)) rfl rfl q_1262 dX12_init_268 ?_
  refine VG_aload_n X (i := 0) 0 dX12_init_271 rfl rfl ?_
  refine VG_bipush X (v := (7 : Int32)) dX12_init_272 (by decide) ?_
  refine VG_newaI X (n := 7) (by decide) (by decide) rfl rfl (by decide) q_71 (Nat.le_of_ble_eq_true rfl) (Nat.le_of_ble_eq_true rfl) dX12_init_274 (fun ad32 hx32 => ?_)
  rw [← hx32 150 (by decide)]
  refine VG_putR X (rfl : vwCl[12]? = some (RX12, TX12, 72)) uin_12 (i := 60) (by decide) rfl (by decide) rfl rfl (by decide) tyX12 tyX12_ok nmX12 (rfl : SRq 150 60 = some 182) (by decide) rfl hin rfl (tyX12_ok 60 (by decide)) rfl rfl q_1274 dX12_init_276 ?_
  refine VG_aload_n X (i := 0) 0 dX12_init_279 rfl rfl ?_
  refine VG_iconst X (v := (-1 : Int32)) dX12_init_280 (by decide) ?_
  refine VG_putI X (rfl : vwCl[12]? = some (RX12, TX12, 72)) uin_12 (i := 61) (by decide) rfl (by decide) rfl rfl (by decide) tyX12 tyX12_ok nmX12 rfl rfl (tyX12_ok 61 (by decide)) rfl rfl q_1275 dX12_init_281 ?_
  refine VG_aload_n X (i := 0) 0 dX12_init_284 rfl rfl ?_
  refine VG_sipush X (v := (10400 : Int32)) dX12_init_285 (by decide) ?_
  refine VG_newaI X (n := 10400) (by decide) (by decide) rfl rfl (by decide) q_71 (Nat.le_of_ble_eq_true rfl) (Nat.le_of_ble_eq_true rfl) dX12_init_288 (fun ad33 hx33 => ?_)
  rw [← hx33 150 (by decide)]
  refine VG_putR X (rfl : vwCl[12]? = some (RX12, TX12, 72)) uin_12 (i := 65) (by decide) rfl (by decide) rfl rfl (by decide) tyX12 tyX12_ok nmX12 (rfl : SRq 150 65 = some 183) (by decide) rfl hin rfl (tyX12_ok 65 (by decide)) rfl rfl q_1279 dX12_init_290 ?_
  refine VG_aload_n X (i := 0) 0 dX12_init_293 rfl rfl ?_
  refine VG_bipush X (v := (20 : Int32)) dX12_init_294 (by decide) ?_
  refine VG_newaI X (n := 20) (by decide) (by decide) rfl rfl (by decide) q_71 (Nat.le_of_ble_eq_true rfl) (Nat.le_of_ble_eq_true rfl) dX12_init_296 (fun ad34 hx34 => ?_)
  rw [← hx34 150 (by decide)]
  refine VG_putR X (rfl : vwCl[12]? = some (RX12, TX12, 72)) uin_12 (i := 67) (by decide) rfl (by decide) rfl rfl (by decide) tyX12 tyX12_ok nmX12 (rfl : SRq 150 67 = some 184) (by decide) rfl hin rfl (tyX12_ok 67 (by decide)) rfl rfl q_1281 dX12_init_298 ?_
  refine VG_aload_n X (i := 0) 0 dX12_init_301 rfl rfl ?_
  refine VG_bipush X (v := (20 : Int32)) dX12_init_302 (by decide) ?_
  refine VG_newaI X (n := 20) (by decide) (by decide) rfl rfl (by decide) q_71 (Nat.le_of_ble_eq_true rfl) (Nat.le_of_ble_eq_true rfl) dX12_init_304 (fun ad35 hx35 => ?_)
  rw [← hx35 150 (by decide)]
  refine VG_putR X (rfl : vwCl[12]? = some (RX12, TX12, 72)) uin_12 (i := 68) (by decide) rfl (by decide) rfl rfl (by decide) tyX12 tyX12_ok nmX12 (rfl : SRq 150 68 = some 185) (by decide) rfl hin rfl (tyX12_ok 68 (by decide)) rfl rfl q_1282 dX12_init_306 ?_
  refine VG_aload_n X (i := 0) 0 dX12_init_309 rfl rfl ?_
  refine VG_bipush X (v := (20 : Int32)) dX12_init_310 (by decide) ?_
  refine VG_newaI X (n := 20) (by decide) (by decide) rfl rfl (by decide) q_71 (Nat.le_of_ble_eq_true rfl) (Nat.le_of_ble_eq_true rfl) dX12_init_312 (fun ad36 hx36 => ?_)
  rw [← hx36 150 (by decide)]
  refine VG_putR X (rfl : vwCl[12]? = some (RX12, TX12, 72)) uin_12 (i := 69) (by decide) rfl (by decide) rfl rfl (by decide) tyX12 tyX12_ok nmX12 (rfl : SRq 150 69 = some 186) (by decide) rfl hin rfl (tyX12_ok 69 (by decide)) rfl rfl q_1283 dX12_init_314 ?_
  refine VG_aload_n X (i := 0) 0 dX12_init_317 rfl rfl ?_
  refine VG_iconst X (v := (3 : Int32)) dX12_init_318 (by decide) ?_
  refine VG_newaZ X (n := 3) (by decide) (by decide) rfl rfl (by decide) q_401 (Nat.le_of_ble_eq_true rfl) (Nat.le_of_ble_eq_true rfl) dX12_init_319 (fun ad37 hx37 => ?_)
  rw [← hx37 150 (by decide)]
  refine VG_putR X (rfl : vwCl[12]? = some (RX12, TX12, 72)) uin_12 (i := 70) (by decide) rfl (by decide) rfl rfl (by decide) tyX12 tyX12_ok nmX12 (rfl : SRq 150 70 = some 187) (by decide) rfl hin rfl (tyX12_ok 70 (by decide)) rfl rfl q_1284 dX12_init_321 ?_
  refine VG_aload_n X (i := 0) 0 dX12_init_324 rfl rfl ?_
  refine VG_sipush X (v := (780 : Int32)) dX12_init_325 (by decide) ?_
  refine VG_newaI X (n := 780) (by decide) (by decide) rfl rfl (by decide) q_71 (Nat.le_of_ble_eq_true rfl) (Nat.le_of_ble_eq_true rfl) dX12_init_328 (fun ad38 hx38 => ?_)
  rw [← hx38 150 (by decide)]
  refine VG_putR X (rfl : vwCl[12]? = some (RX12, TX12, 72)) uin_12 (i := 71) (by decide) rfl (by decide) rfl rfl (by decide) tyX12 tyX12_ok nmX12 (rfl : SRq 150 71 = some 188) (by decide) rfl hin rfl (tyX12_ok 71 (by decide)) rfl rfl q_1285 dX12_init_330 ?_
  intro hok9 hgk9
  exact VGn_toV (ads := ads) (w := wc) (wm := wI_12) (by decide) (by decide) rfr_12 (wI_12_c wc) (fun hi hA => v_12_initT rfl (CX_of X hst hi hA) hr (fun u v hu => ⟨fun k hk => (hx38 k (by omega)).trans ((hx37 k (by omega)).trans ((hx36 k (by omega)).trans ((hx35 k (by omega)).trans ((hx34 k (by omega)).trans ((hx33 k (by omega)).trans ((hx32 k (by omega)).trans ((hx31 k (by omega)).trans ((hx30 k (by omega)).trans ((hx29 k (by omega)).trans ((hx28 k (by omega)).trans ((hx27 k (by omega)).trans ((hx26 k (by omega)).trans ((hx25 k (by omega)).trans ((hx24 k (by omega)).trans ((hx23 k (by omega)).trans ((hx22 k (by omega)).trans ((hx21 k (by omega)).trans ((hx20 k (by omega)).trans ((hx19 k (by omega)).trans ((hx18 k (by omega)).trans ((hx17 k (by omega)).trans ((hx16 k (by omega)).trans ((hx15 k (by omega)).trans ((hx14 k (by omega)).trans ((hx13 k (by omega)).trans ((hx12 k (by omega)).trans ((hx11 k (by omega)).trans ((hx10 k (by omega)).trans ((hx9 k (by omega)).trans ((hx8 k (by omega)).trans ((hx7 k (by omega)).trans ((hx6 k (by omega)).trans ((hx5 k (by omega)).trans ((hx4 k (by omega)).trans ((hx3 k (by omega)).trans ((hx2 k (by omega)).trans (hx1 k (by omega)))))))))))))))))))))))))))))))))))))), rfl, u, rfl, hu⟩) h)
end
