-- printed by wip/whole/gen6.py out of the decode rows and the tables
section
variable {p : Program} {l : Launch} {e : Env} {R : Room} {s : State} {m : MethodId} {args : Array Value} {below : List Frame} {meth : Method} {c : Code} {cc : ByteArray} {nL : Nat} {ad : Nat → Nat} {cy : Nat → ClassId} {D : va_G} {A : Nat → Prop} {H0 : Heap} {ce sl : Nat} {Qs : State → Prop} {wc wm : Mem} {wl0 : MemL} {pc : Nat} {ls : List (Nat × Value)} {st1 : List Value}
set_option maxRecDepth 20000 in
theorem v_12_emit {a1 : Int32} {a2 : Int32} (X : CXq p s m args meth c cX12_emit 3 yX12_emit.cls ad cy D (AW ad) s.heap) (hr : meth.sig.returnType = none) (hZ : ad 1000 = 189) {w : Mem} {wl : MemL} {Q : Mem → MemL → Prop} (h : wp_12_emit a1 a2 w wl Q) : V p l e (RM 0) s m args below meth c 3 ad cy D (AW ad) s.heap 0 0 (MQ below (va_Qv (fun (u : Mem × MemL) => Q u.1 u.2) (BM ad cy D wc) (AW ad)) args s 0 0 (AW ad)) wc w wl 0 [(0, .ref (ad 150)), (1, .int a1), (2, .int a2)] [] := by
  unfold wp_12_emit at h
  refine V_aload_n X (i := 0) 0 dX12_emit_0 rfl rfl ?_
  refine G_12_92 X hZ dX12_emit_1 ?_
  refine V_aload_n X (i := 0) 0 dX12_emit_4 rfl rfl ?_
  refine G_12_230 X hZ dX12_emit_5 ?_
  refine V_iload_n X (i := 1) 1 dX12_emit_8 rfl rfl ?_
  obtain ⟨g1, h⟩ := h
  obtain ⟨w2, ew2⟩ : ∃ y : Mem, y = st w 175 (ix (w 150 39)) a1 := ⟨_, rfl⟩
  have h := h w2 ew2
  refine V_iast_m X (rfl : SLq 175 = 840) (hzk hZ (by decide)) (rfl : SK 175 = 14) g1 dX12_emit_9 ew2 ?_
  refine V_aload_n X (i := 0) 0 dX12_emit_10 rfl rfl ?_
  refine G_12_95 X hZ dX12_emit_11 ?_
  refine V_aload_n X (i := 0) 0 dX12_emit_14 rfl rfl ?_
  refine G_12_230 X hZ dX12_emit_15 ?_
  refine V_iload_n X (i := 2) 2 dX12_emit_18 rfl rfl ?_
  obtain ⟨g3, h⟩ := h
  obtain ⟨w4, ew4⟩ : ∃ y : Mem, y = st w2 176 (ix (w2 150 39)) a2 := ⟨_, rfl⟩
  have h := h w4 ew4
  refine V_iast_m X (rfl : SLq 176 = 840) (hzk hZ (by decide)) (rfl : SK 176 = 14) g3 dX12_emit_19 ew4 ?_
  refine V_aload_n X (i := 0) 0 dX12_emit_20 rfl rfl ?_
  refine V_dup X dX12_emit_21 rfl ?_
  refine G_12_230 X hZ dX12_emit_22 ?_
  refine V_iconst X (v := (1 : Int32)) dX12_emit_25 (by decide) ?_
  refine V_iadd X dX12_emit_26 ?_
  obtain ⟨w5, ew5⟩ : ∃ y : Mem, y = st w4 150 39 ((w4 150 39) + (1 : Int32)) := ⟨_, rfl⟩
  have h := h w5 ew5
  refine U_12_230 X hZ rfl rfl dX12_emit_27 ew5 ?_
  exact V_vret_m X hr dX12_emit_30 h
theorem c_12_emit {a1 : Int32} {a2 : Int32} (hinj : INJ ad) (hZ : ad 1000 = 189) {w : Mem} {wl : MemL} {Q : Mem → MemL → Prop} (h : wp_12_emit a1 a2 w wl Q) : Met l yX12_emit (TBq yX12_emit cX12_emit 3 none) (RM 0) (va_Pc [.ref (ad 150), .int a1, .int a2] (PB ad cy D (cmb wc w) wl)) (va_Qv (fun (u : Mem × MemL) => Q u.1 u.2) (BM ad cy D wc) (AW ad)) 0 0 (AW ad) := M_enter (by decide) (Nat.le_of_ble_eq_true rfl) hinj (fun p e s m args below meth c X hr => v_12_emit X hr hZ h)
theorem mf_12_emit : MFV yX12_emit cX12_emit 3 none yX12_emit.cls 2 := ⟨q_1529, q_1528, qs_61, q_14, by decide⟩
theorem K_12_emit {own : String} {idx : Nat} {a1 : Int32} {a2 : Int32} (X : CXq p s m args meth c cc nL own ad cy D A H0) (hL : LK own idx yX12_emit) (hZ : ad 1000 = 189) {w : Mem} {wl : MemL} {Q : Mem → MemL → Prop} (h : wp_12_emit a1 a2 w wl Q) (hR : (RM 0).frames + 1 ≤ R.frames ∧ 8 + (3 + 11) + (RM 0).locals ≤ R.locals) (hce : ce ≤ R.cells ∧ sl ≤ R.slots) (hcat : (st1.map fun v => v.category).sum ≤ 8) (hd : decode cc pc = .ok (.invokevirtual idx, 3)) (kk : ∀ (u : Mem) (v : MemL), Q u v → V p l e R s m args below meth c nL ad cy D A H0 ce sl Qs wc u v (pc + 3) ls st1) : V p l e R s m args below meth c nL ad cy D A H0 ce sl Qs wc w wl pc ls (.int a2 :: .int a1 :: .ref (ad 150) :: st1) := V_callVV_m X mf_12_emit hL (rfl : vwCl[12]? = some (RX12, TX12, 72)) (by decide) (rfl : SK 150 = 12) (hzk hZ (by decide)).2 (c_12_emit X.2.2.2.2.2.2.2.1 hZ h) (As := [.int a1, .int a2]) rfl ⟨rfl, rfl⟩ hR hce st1 rfl hcat hd kk
set_option maxRecDepth 20000 in
theorem v_12_unit_b88 (X : CXq p s m args meth c cX12_unit 1 yX12_unit.cls ad cy D (AW ad) s.heap) (hr : meth.sig.returnType = none) (hZ : ad 1000 = 189) {Q : Mem → MemL → Prop} : ∀ (w : Mem) (wl : MemL), wp_12_unit_b88 Q w wl → V p l e (RM 2) s m args below meth c 1 ad cy D (AW ad) s.heap 0 0 (MQ below (va_Qv (fun (u : Mem × MemL) => Q u.1 u.2) (BM ad cy D wc) (AW ad)) args s 0 0 (AW ad)) wc w wl 88 [(0, .ref (ad 150))] [] := by
  intro w wl h
  unfold wp_12_unit_b88 at h
  refine V_aload_n X (i := 0) 0 dX12_unit_88 rfl rfl ?_
  refine V_iconst X (v := (1 : Int32)) dX12_unit_89 (by decide) ?_
  refine K_12_fail X (Or.inl q_1482) hZ h ⟨Nat.le_of_ble_eq_true rfl, Nat.le_of_ble_eq_true rfl⟩ ⟨Nat.zero_le _, Nat.zero_le _⟩ (st1 := []) (Nat.le_of_ble_eq_true rfl) dX12_unit_90 (fun w1 v2 h => ?_)
  exact V_vret_m X hr dX12_unit_93 h
set_option maxRecDepth 20000 in
theorem v_12_unit (X : CXq p s m args meth c cX12_unit 1 yX12_unit.cls ad cy D (AW ad) s.heap) (hr : meth.sig.returnType = none) (hZ : ad 1000 = 189) {w : Mem} {wl : MemL} {Q : Mem → MemL → Prop} (h : wp_12_unit w wl Q) : V p l e (RM 2) s m args below meth c 1 ad cy D (AW ad) s.heap 0 0 (MQ below (va_Qv (fun (u : Mem × MemL) => Q u.1 u.2) (BM ad cy D wc) (AW ad)) args s 0 0 (AW ad)) wc w wl 0 [(0, .ref (ad 150))] [] := by
  unfold wp_12_unit at h
  refine V_aload_n X (i := 0) 0 dX12_unit_0 rfl rfl ?_
  refine V_iconst X (v := (2 : Int32)) dX12_unit_1 (by decide) ?_
  refine K_12_is X (Or.inl q_1470) hZ h ⟨Nat.le_of_ble_eq_true rfl, Nat.le_of_ble_eq_true rfl⟩ ⟨Nat.zero_le _, Nat.zero_le _⟩ (st1 := []) (Nat.le_of_ble_eq_true rfl) dX12_unit_2 (fun r2 w1 v3 h => ?_)
  obtain ⟨ht, hf⟩ := h
  refine V_if_eq X (tgt := 29) dX12_unit_5 (by decide) (fun c => ?_) (fun c => ?_)
  · have h := ht c
    refine V_aload_n X (i := 0) 0 dX12_unit_29 rfl rfl ?_
    refine G_12_188 X hZ dX12_unit_30 ?_
    obtain ⟨ht, hf⟩ := h
    refine V_if_ne X (tgt := 88) dX12_unit_33 (by decide) (fun c => ?_) (fun c => ?_)
    · have h := ht c
      refine V_sub X (ls1 := [(0, .ref (ad 150))]) [0] rfl ?_
      exact v_12_unit_b88 X hr hZ _ _ h
    · have h := hf c
      refine V_aload_n X (i := 0) 0 dX12_unit_36 rfl rfl ?_
      refine G_12_20 X hZ dX12_unit_37 ?_
      refine V_aload_n X (i := 0) 0 dX12_unit_40 rfl rfl ?_
      refine G_12_191 X hZ dX12_unit_41 ?_
      obtain ⟨g4, h⟩ := h
      refine V_iald_m X (rfl : SLq 153 = 403) (hzk hZ (by decide)) (rfl : SK 153 = 14) g4 dX12_unit_44 ?_
      refine V_bipush X (v := (38 : Int32)) dX12_unit_45 (by decide) ?_
      obtain ⟨ht, hf⟩ := h
      refine V_icmp_lt X (tgt := 88) dX12_unit_47 (by decide) (fun c => ?_) (fun c => ?_)
      · have h := ht c
        refine V_sub X (ls1 := [(0, .ref (ad 150))]) [0] rfl ?_
        exact v_12_unit_b88 X hr hZ _ _ h
      · have h := hf c
        refine V_aload_n X (i := 0) 0 dX12_unit_50 rfl rfl ?_
        refine G_12_20 X hZ dX12_unit_51 ?_
        refine V_aload_n X (i := 0) 0 dX12_unit_54 rfl rfl ?_
        refine G_12_191 X hZ dX12_unit_55 ?_
        obtain ⟨g5, h⟩ := h
        refine V_iald_m X (rfl : SLq 153 = 403) (hzk hZ (by decide)) (rfl : SK 153 = 14) g5 dX12_unit_58 ?_
        refine V_bipush X (v := (48 : Int32)) dX12_unit_59 (by decide) ?_
        obtain ⟨ht, hf⟩ := h
        refine V_icmp_gt X (tgt := 88) dX12_unit_61 (by decide) (fun c => ?_) (fun c => ?_)
        · have h := ht c
          refine V_sub X (ls1 := [(0, .ref (ad 150))]) [0] rfl ?_
          exact v_12_unit_b88 X hr hZ _ _ h
        · have h := hf c
          refine V_aload_n X (i := 0) 0 dX12_unit_64 rfl rfl ?_
          refine V_iconst X (v := (1 : Int32)) dX12_unit_65 (by decide) ?_
          refine V_aload_n X (i := 0) 0 dX12_unit_66 rfl rfl ?_
          refine G_12_20 X hZ dX12_unit_67 ?_
          refine V_aload_n X (i := 0) 0 dX12_unit_70 rfl rfl ?_
          refine G_12_191 X hZ dX12_unit_71 ?_
          obtain ⟨g6, h⟩ := h
          refine V_iald_m X (rfl : SLq 153 = 403) (hzk hZ (by decide)) (rfl : SK 153 = 14) g6 dX12_unit_74 ?_
          refine V_bipush X (v := (38 : Int32)) dX12_unit_75 (by decide) ?_
          refine V_isub X dX12_unit_77 ?_
          refine K_12_emit X (Or.inl q_1526) hZ h ⟨Nat.le_of_ble_eq_true rfl, Nat.le_of_ble_eq_true rfl⟩ ⟨Nat.zero_le _, Nat.zero_le _⟩ (st1 := []) (Nat.le_of_ble_eq_true rfl) dX12_unit_78 (fun w7 v8 h => ?_)
          refine V_aload_n X (i := 0) 0 dX12_unit_81 rfl rfl ?_
          refine K_12_goesOn X (Or.inl q_1478) hZ h ⟨Nat.le_of_ble_eq_true rfl, Nat.le_of_ble_eq_true rfl⟩ ⟨Nat.zero_le _, Nat.zero_le _⟩ (st1 := []) (Nat.le_of_ble_eq_true rfl) dX12_unit_82 (fun w9 v10 h => ?_)
          refine V_goto X (tgt := 93) dX12_unit_85 (by decide) ?_
          exact V_vret_m X hr dX12_unit_93 h
  · have h := hf c
    refine V_aload_n X (i := 0) 0 dX12_unit_8 rfl rfl ?_
    refine V_iconst X (v := (0 : Int32)) dX12_unit_9 (by decide) ?_
    refine V_aload_n X (i := 0) 0 dX12_unit_10 rfl rfl ?_
    refine G_12_27 X hZ dX12_unit_11 ?_
    refine V_aload_n X (i := 0) 0 dX12_unit_14 rfl rfl ?_
    refine G_12_191 X hZ dX12_unit_15 ?_
    obtain ⟨g11, h⟩ := h
    refine V_iald_m X (rfl : SLq 155 = 403) (hzk hZ (by decide)) (rfl : SK 155 = 14) g11 dX12_unit_18 ?_
    refine K_12_emit X (Or.inl q_1526) hZ h ⟨Nat.le_of_ble_eq_true rfl, Nat.le_of_ble_eq_true rfl⟩ ⟨Nat.zero_le _, Nat.zero_le _⟩ (st1 := []) (Nat.le_of_ble_eq_true rfl) dX12_unit_19 (fun w12 v13 h => ?_)
    refine V_aload_n X (i := 0) 0 dX12_unit_22 rfl rfl ?_
    refine K_12_goesOn X (Or.inl q_1478) hZ h ⟨Nat.le_of_ble_eq_true rfl, Nat.le_of_ble_eq_true rfl⟩ ⟨Nat.zero_le _, Nat.zero_le _⟩ (st1 := []) (Nat.le_of_ble_eq_true rfl) dX12_unit_23 (fun w14 v15 h => ?_)
    refine V_goto X (tgt := 93) dX12_unit_26 (by decide) ?_
    exact V_vret_m X hr dX12_unit_93 h
theorem c_12_unit (hinj : INJ ad) (hZ : ad 1000 = 189) {w : Mem} {wl : MemL} {Q : Mem → MemL → Prop} (h : wp_12_unit w wl Q) : Met l yX12_unit (TBq yX12_unit cX12_unit 1 none) (RM 2) (va_Pc [.ref (ad 150)] (PB ad cy D (cmb wc w) wl)) (va_Qv (fun (u : Mem × MemL) => Q u.1 u.2) (BM ad cy D wc) (AW ad)) 0 0 (AW ad) := M_enter (by decide) (Nat.le_of_ble_eq_true rfl) hinj (fun p e s m args below meth c X hr => v_12_unit X hr hZ h)
theorem mf_12_unit : MFV yX12_unit cX12_unit 1 none yX12_unit.cls 0 := ⟨q_1525, q_1524, qs_60, q_14, by decide⟩
theorem K_12_unit {own : String} {idx : Nat} (X : CXq p s m args meth c cc nL own ad cy D A H0) (hL : LK own idx yX12_unit) (hZ : ad 1000 = 189) {w : Mem} {wl : MemL} {Q : Mem → MemL → Prop} (h : wp_12_unit w wl Q) (hR : (RM 2).frames + 1 ≤ R.frames ∧ 8 + (1 + 11) + (RM 2).locals ≤ R.locals) (hce : ce ≤ R.cells ∧ sl ≤ R.slots) (hcat : (st1.map fun v => v.category).sum ≤ 8) (hd : decode cc pc = .ok (.invokevirtual idx, 3)) (kk : ∀ (u : Mem) (v : MemL), Q u v → V p l e R s m args below meth c nL ad cy D A H0 ce sl Qs wc u v (pc + 3) ls st1) : V p l e R s m args below meth c nL ad cy D A H0 ce sl Qs wc w wl pc ls (.ref (ad 150) :: st1) := V_callVV_m X mf_12_unit hL (rfl : vwCl[12]? = some (RX12, TX12, 72)) (by decide) (rfl : SK 150 = 12) (hzk hZ (by decide)).2 (c_12_unit X.2.2.2.2.2.2.2.1 hZ h) (As := []) rfl ⟨rfl, rfl⟩ hR hce st1 rfl hcat hd kk
set_option maxRecDepth 20000 in
theorem v_12_comesOut_b84 (X : CXq p s m args meth c cX12_comesOut 3 yX12_comesOut.cls ad cy D (AW ad) s.heap) (hr : meth.sig.returnType = none) (hZ : ad 1000 = 189) {Q : Mem → MemL → Prop} {L0 : Int32 → Mem → MemL → Prop} (HL0 : ∀ (l1 : Int32) (w : Mem) (wl : MemL), L0 l1 w wl → V p l e (RM 1) s m args below meth c 3 ad cy D (AW ad) s.heap 0 0 (MQ below (va_Qv (fun (u : Mem × MemL) => Q u.1 u.2) (BM ad cy D wc) (AW ad)) args s 0 0 (AW ad)) wc w wl 0 [(0, .ref (ad 150)), (1, .int l1)] []) : ∀ (l1 : Int32) (s1 : Int32) (w : Mem) (wl : MemL), wp_12_comesOut_b84 Q L0 l1 s1 w wl → V p l e (RM 1) s m args below meth c 3 ad cy D (AW ad) s.heap 0 0 (MQ below (va_Qv (fun (u : Mem × MemL) => Q u.1 u.2) (BM ad cy D wc) (AW ad)) args s 0 0 (AW ad)) wc w wl 84 [(0, .ref (ad 150)), (1, .int l1)] [.int s1, .ref (ad 150)] := by
  intro l1 s1 w wl h
  unfold wp_12_comesOut_b84 at h
  refine V_iconst X (v := (0 : Int32)) dX12_comesOut_84 (by decide) ?_
  refine K_12_emit X (Or.inl q_1526) hZ h ⟨Nat.le_of_ble_eq_true rfl, Nat.le_of_ble_eq_true rfl⟩ ⟨Nat.zero_le _, Nat.zero_le _⟩ (st1 := []) (Nat.le_of_ble_eq_true rfl) dX12_comesOut_85 (fun w1 v2 h => ?_)
  refine V_goto X (tgt := 0) dX12_comesOut_88 (by decide) ?_
  refine V_sub X (ls1 := [(0, .ref (ad 150)), (1, .int l1)]) [0, 1] rfl ?_
  exact HL0 _ _ _ h
set_option maxRecDepth 20000 in
theorem v_12_comesOut_b42 (X : CXq p s m args meth c cX12_comesOut 3 yX12_comesOut.cls ad cy D (AW ad) s.heap) (hr : meth.sig.returnType = none) (hZ : ad 1000 = 189) {Q : Mem → MemL → Prop} {L0 : Int32 → Mem → MemL → Prop} (HL0 : ∀ (l1 : Int32) (w : Mem) (wl : MemL), L0 l1 w wl → V p l e (RM 1) s m args below meth c 3 ad cy D (AW ad) s.heap 0 0 (MQ below (va_Qv (fun (u : Mem × MemL) => Q u.1 u.2) (BM ad cy D wc) (AW ad)) args s 0 0 (AW ad)) wc w wl 0 [(0, .ref (ad 150)), (1, .int l1)] []) : ∀ (l1 : Int32) (l2 : Int32) (w : Mem) (wl : MemL), wp_12_comesOut_b42 Q L0 l1 l2 w wl → V p l e (RM 1) s m args below meth c 3 ad cy D (AW ad) s.heap 0 0 (MQ below (va_Qv (fun (u : Mem × MemL) => Q u.1 u.2) (BM ad cy D wc) (AW ad)) args s 0 0 (AW ad)) wc w wl 42 [(0, .ref (ad 150)), (1, .int l1), (2, .int l2)] [] := by
  intro l1 l2 w wl h
  unfold wp_12_comesOut_b42 at h
  refine V_aload_n X (i := 0) 0 dX12_comesOut_42 rfl rfl ?_
  refine V_dup X dX12_comesOut_43 rfl ?_
  refine G_12_276 X hZ dX12_comesOut_44 ?_
  refine V_iconst X (v := (1 : Int32)) dX12_comesOut_47 (by decide) ?_
  refine V_isub X dX12_comesOut_48 ?_
  obtain ⟨w1, ew1⟩ : ∃ y : Mem, y = st w 150 43 ((w 150 43) - (1 : Int32)) := ⟨_, rfl⟩
  have h := h w1 ew1
  refine U_12_276 X hZ rfl rfl dX12_comesOut_49 ew1 ?_
  refine V_aload_n X (i := 0) 0 dX12_comesOut_52 rfl rfl ?_
  refine V_iload_n X (i := 2) 2 dX12_comesOut_53 rfl rfl ?_
  refine V_bipush X (v := (8 : Int32)) dX12_comesOut_54 (by decide) ?_
  obtain ⟨ht, hf⟩ := h
  refine V_icmp_ne X (tgt := 63) dX12_comesOut_56 (by decide) (fun c => ?_) (fun c => ?_)
  · have h := ht c
    refine V_iload_n X (i := 2) 2 dX12_comesOut_63 rfl rfl ?_
    refine V_bipush X (v := (9 : Int32)) dX12_comesOut_64 (by decide) ?_
    obtain ⟨ht, hf⟩ := h
    refine V_icmp_ne X (tgt := 73) dX12_comesOut_66 (by decide) (fun c => ?_) (fun c => ?_)
    · have h := ht c
      refine V_iload_n X (i := 2) 2 dX12_comesOut_73 rfl rfl ?_
      refine V_bipush X (v := (10 : Int32)) dX12_comesOut_74 (by decide) ?_
      obtain ⟨ht, hf⟩ := h
      refine V_icmp_ne X (tgt := 83) dX12_comesOut_76 (by decide) (fun c => ?_) (fun c => ?_)
      · have h := ht c
        refine V_iconst X (v := (5 : Int32)) dX12_comesOut_83 (by decide) ?_
        refine V_sub X (ls1 := [(0, .ref (ad 150)), (1, .int l1)]) [0, 1] rfl ?_
        exact v_12_comesOut_b84 X hr hZ HL0 _ _ _ _ h
      · have h := hf c
        refine V_iconst X (v := (4 : Int32)) dX12_comesOut_79 (by decide) ?_
        refine V_goto X (tgt := 84) dX12_comesOut_80 (by decide) ?_
        refine V_sub X (ls1 := [(0, .ref (ad 150)), (1, .int l1)]) [0, 1] rfl ?_
        exact v_12_comesOut_b84 X hr hZ HL0 _ _ _ _ h
    · have h := hf c
      refine V_iconst X (v := (3 : Int32)) dX12_comesOut_69 (by decide) ?_
      refine V_goto X (tgt := 84) dX12_comesOut_70 (by decide) ?_
      refine V_sub X (ls1 := [(0, .ref (ad 150)), (1, .int l1)]) [0, 1] rfl ?_
      exact v_12_comesOut_b84 X hr hZ HL0 _ _ _ _ h
  · have h := hf c
    refine V_iconst X (v := (2 : Int32)) dX12_comesOut_59 (by decide) ?_
    refine V_goto X (tgt := 84) dX12_comesOut_60 (by decide) ?_
    refine V_sub X (ls1 := [(0, .ref (ad 150)), (1, .int l1)]) [0, 1] rfl ?_
    exact v_12_comesOut_b84 X hr hZ HL0 _ _ _ _ h
set_option maxRecDepth 20000 in
theorem v_12_comesOut_b0 (X : CXq p s m args meth c cX12_comesOut 3 yX12_comesOut.cls ad cy D (AW ad) s.heap) (hr : meth.sig.returnType = none) (hZ : ad 1000 = 189) {Q : Mem → MemL → Prop} : ∀ (n : Nat) (l1 : Int32) (w : Mem) (wl : MemL), wp_12_comesOut_b0 Q n l1 w wl → V p l e (RM 1) s m args below meth c 3 ad cy D (AW ad) s.heap 0 0 (MQ below (va_Qv (fun (u : Mem × MemL) => Q u.1 u.2) (BM ad cy D wc) (AW ad)) args s 0 0 (AW ad)) wc w wl 0 [(0, .ref (ad 150)), (1, .int l1)] [] := by
  intro n
  induction n with
  | zero =>
    intro l1 w wl h
    exact h.elim
  | succ n ih =>
    intro l1 w wl h
    unfold wp_12_comesOut_b0 at h
    refine V_aload_n X (i := 0) 0 dX12_comesOut_0 rfl rfl ?_
    refine G_12_276 X hZ dX12_comesOut_1 ?_
    obtain ⟨ht, hf⟩ := h
    refine V_if_le X (tgt := 91) dX12_comesOut_4 (by decide) (fun c => ?_) (fun c => ?_)
    · have h := ht c
      exact V_vret_m X hr dX12_comesOut_91 h
    · have h := hf c
      refine V_aload_n X (i := 0) 0 dX12_comesOut_7 rfl rfl ?_
      refine G_12_98 X hZ dX12_comesOut_8 ?_
      refine V_aload_n X (i := 0) 0 dX12_comesOut_11 rfl rfl ?_
      refine G_12_276 X hZ dX12_comesOut_12 ?_
      refine V_iconst X (v := (1 : Int32)) dX12_comesOut_15 (by decide) ?_
      refine V_isub X dX12_comesOut_16 ?_
      obtain ⟨g1, h⟩ := h
      refine V_iald_m X (rfl : SLq 177 = 64) (hzk hZ (by decide)) (rfl : SK 177 = 14) g1 dX12_comesOut_17 ?_
      obtain ⟨x2, ex2⟩ : ∃ y : Int32, y = (w 177 (ix ((w 150 43) - (1 : Int32)))) := ⟨_, rfl⟩
      have h := h x2 ex2
      refine V_istore_n X dX12_comesOut_18 rfl (by decide) ex2 (ls1 := [(2, .int x2), (0, .ref (ad 150)), (1, .int l1)]) rfl ?_
      refine V_iload_n X (i := 2) 0 dX12_comesOut_19 rfl rfl ?_
      refine V_bipush X (v := (6 : Int32)) dX12_comesOut_20 (by decide) ?_
      obtain ⟨ht, hf⟩ := h
      refine V_icmp_eq X (tgt := 41) dX12_comesOut_22 (by decide) (fun c => ?_) (fun c => ?_)
      · have h := ht c
        exact V_vret_m X hr dX12_comesOut_41 h
      · have h := hf c
        refine V_iload_n X (i := 1) 2 dX12_comesOut_25 rfl rfl ?_
        obtain ⟨ht, hf⟩ := h
        refine V_if_eq X (tgt := 42) dX12_comesOut_26 (by decide) (fun c => ?_) (fun c => ?_)
        · have h := ht c
          refine V_sub X (ls1 := [(0, .ref (ad 150)), (1, .int l1), (2, .int x2)]) [1, 2, 0] rfl ?_
          exact v_12_comesOut_b42 X hr hZ ih _ _ _ _ h
        · have h := hf c
          refine V_iload_n X (i := 2) 0 dX12_comesOut_29 rfl rfl ?_
          refine V_bipush X (v := (8 : Int32)) dX12_comesOut_30 (by decide) ?_
          obtain ⟨ht, hf⟩ := h
          refine V_icmp_eq X (tgt := 41) dX12_comesOut_32 (by decide) (fun c => ?_) (fun c => ?_)
          · have h := ht c
            exact V_vret_m X hr dX12_comesOut_41 h
          · have h := hf c
            refine V_iload_n X (i := 2) 0 dX12_comesOut_35 rfl rfl ?_
            refine V_bipush X (v := (9 : Int32)) dX12_comesOut_36 (by decide) ?_
            obtain ⟨ht, hf⟩ := h
            refine V_icmp_ne X (tgt := 42) dX12_comesOut_38 (by decide) (fun c => ?_) (fun c => ?_)
            · have h := ht c
              refine V_sub X (ls1 := [(0, .ref (ad 150)), (1, .int l1), (2, .int x2)]) [1, 2, 0] rfl ?_
              exact v_12_comesOut_b42 X hr hZ ih _ _ _ _ h
            · have h := hf c
              exact V_vret_m X hr dX12_comesOut_41 h
set_option maxRecDepth 20000 in
theorem v_12_comesOut {a1 : Int32} (X : CXq p s m args meth c cX12_comesOut 3 yX12_comesOut.cls ad cy D (AW ad) s.heap) (hr : meth.sig.returnType = none) (hZ : ad 1000 = 189) {w : Mem} {wl : MemL} {Q : Mem → MemL → Prop} (h : wp_12_comesOut a1 w wl Q) : V p l e (RM 1) s m args below meth c 3 ad cy D (AW ad) s.heap 0 0 (MQ below (va_Qv (fun (u : Mem × MemL) => Q u.1 u.2) (BM ad cy D wc) (AW ad)) args s 0 0 (AW ad)) wc w wl 0 [(0, .ref (ad 150)), (1, .int a1)] [] := by
  unfold wp_12_comesOut at h
  refine V_sub X (ls1 := [(0, .ref (ad 150)), (1, .int a1)]) [0, 1] rfl ?_
  obtain ⟨nn, h⟩ := h
  exact v_12_comesOut_b0 X hr hZ nn _ _ _ h
theorem c_12_comesOut {a1 : Int32} (hinj : INJ ad) (hZ : ad 1000 = 189) {w : Mem} {wl : MemL} {Q : Mem → MemL → Prop} (h : wp_12_comesOut a1 w wl Q) : Met l yX12_comesOut (TBq yX12_comesOut cX12_comesOut 3 none) (RM 1) (va_Pc [.ref (ad 150), .int a1] (PB ad cy D (cmb wc w) wl)) (va_Qv (fun (u : Mem × MemL) => Q u.1 u.2) (BM ad cy D wc) (AW ad)) 0 0 (AW ad) := M_enter (by decide) (Nat.le_of_ble_eq_true rfl) hinj (fun p e s m args below meth c X hr => v_12_comesOut X hr hZ h)
theorem mf_12_comesOut : MFV yX12_comesOut cX12_comesOut 3 none yX12_comesOut.cls 1 := ⟨q_1533, q_1532, qs_62, q_14, by decide⟩
theorem K_12_comesOut {own : String} {idx : Nat} {a1 : Int32} (X : CXq p s m args meth c cc nL own ad cy D A H0) (hL : LK own idx yX12_comesOut) (hZ : ad 1000 = 189) {w : Mem} {wl : MemL} {Q : Mem → MemL → Prop} (h : wp_12_comesOut a1 w wl Q) (hR : (RM 1).frames + 1 ≤ R.frames ∧ 8 + (3 + 11) + (RM 1).locals ≤ R.locals) (hce : ce ≤ R.cells ∧ sl ≤ R.slots) (hcat : (st1.map fun v => v.category).sum ≤ 8) (hd : decode cc pc = .ok (.invokevirtual idx, 3)) (kk : ∀ (u : Mem) (v : MemL), Q u v → V p l e R s m args below meth c nL ad cy D A H0 ce sl Qs wc u v (pc + 3) ls st1) : V p l e R s m args below meth c nL ad cy D A H0 ce sl Qs wc w wl pc ls (.int a1 :: .ref (ad 150) :: st1) := V_callVV_m X mf_12_comesOut hL (rfl : vwCl[12]? = some (RX12, TX12, 72)) (by decide) (rfl : SK 150 = 12) (hzk hZ (by decide)).2 (c_12_comesOut X.2.2.2.2.2.2.2.1 hZ h) (As := [.int a1]) rfl ⟨rfl, rfl⟩ hR hce st1 rfl hcat hd kk
set_option maxRecDepth 20000 in
theorem v_12_expression_b234 (X : CXq p s m args meth c cX12_expression 3 yX12_expression.cls ad cy D (AW ad) s.heap) (hr : meth.sig.returnType = none) (hZ : ad 1000 = 189) {Q : Mem → MemL → Prop} {L12 : Int32 → Int32 → Mem → MemL → Prop} (HL12 : ∀ (l1 : Int32) (l2 : Int32) (w : Mem) (wl : MemL), L12 l1 l2 w wl → V p l e (RM 3) s m args below meth c 3 ad cy D (AW ad) s.heap 0 0 (MQ below (va_Qv (fun (u : Mem × MemL) => Q u.1 u.2) (BM ad cy D wc) (AW ad)) args s 0 0 (AW ad)) wc w wl 12 [(0, .ref (ad 150)), (1, .int l1), (2, .int l2)] []) : ∀ (l1 : Int32) (l2 : Int32) (s1 : Int32) (w : Mem) (wl : MemL), wp_12_expression_b234 Q L12 l1 l2 s1 w wl → V p l e (RM 3) s m args below meth c 3 ad cy D (AW ad) s.heap 0 0 (MQ below (va_Qv (fun (u : Mem × MemL) => Q u.1 u.2) (BM ad cy D wc) (AW ad)) args s 0 0 (AW ad)) wc w wl 234 [(0, .ref (ad 150)), (1, .int l1), (2, .int l2)] [.int s1, .ref (ad 150)] := by
  intro l1 l2 s1 w wl h
  unfold wp_12_expression_b234 at h
  refine K_12_comesOut X (Or.inl q_1530) hZ h ⟨Nat.le_of_ble_eq_true rfl, Nat.le_of_ble_eq_true rfl⟩ ⟨Nat.zero_le _, Nat.zero_le _⟩ (st1 := []) (Nat.le_of_ble_eq_true rfl) dX12_expression_234 (fun w1 v2 h => ?_)
  refine V_aload_n X (i := 0) 0 dX12_expression_237 rfl rfl ?_
  refine G_12_98 X hZ dX12_expression_238 ?_
  refine V_aload_n X (i := 0) 0 dX12_expression_241 rfl rfl ?_
  refine G_12_276 X hZ dX12_expression_242 ?_
  refine V_aload_n X (i := 0) 0 dX12_expression_245 rfl rfl ?_
  refine G_12_20 X hZ dX12_expression_246 ?_
  refine V_aload_n X (i := 0) 0 dX12_expression_249 rfl rfl ?_
  refine G_12_191 X hZ dX12_expression_250 ?_
  obtain ⟨g3, h⟩ := h
  refine V_iald_m X (rfl : SLq 153 = 403) (hzk hZ (by decide)) (rfl : SK 153 = 14) g3 dX12_expression_253 ?_
  obtain ⟨g4, h⟩ := h
  obtain ⟨w5, ew5⟩ : ∃ y : Mem, y = st w1 177 (ix (w1 150 43)) (w1 153 (ix (w1 150 11))) := ⟨_, rfl⟩
  have h := h w5 ew5
  refine V_iast_m X (rfl : SLq 177 = 64) (hzk hZ (by decide)) (rfl : SK 177 = 14) g4 dX12_expression_254 ew5 ?_
  refine V_aload_n X (i := 0) 0 dX12_expression_255 rfl rfl ?_
  refine V_dup X dX12_expression_256 rfl ?_
  refine G_12_276 X hZ dX12_expression_257 ?_
  refine V_iconst X (v := (1 : Int32)) dX12_expression_260 (by decide) ?_
  refine V_iadd X dX12_expression_261 ?_
  obtain ⟨w6, ew6⟩ : ∃ y : Mem, y = st w5 150 43 ((w5 150 43) + (1 : Int32)) := ⟨_, rfl⟩
  have h := h w6 ew6
  refine U_12_276 X hZ rfl rfl dX12_expression_262 ew6 ?_
  refine V_aload_n X (i := 0) 0 dX12_expression_265 rfl rfl ?_
  refine K_12_goesOn X (Or.inl q_1478) hZ h ⟨Nat.le_of_ble_eq_true rfl, Nat.le_of_ble_eq_true rfl⟩ ⟨Nat.zero_le _, Nat.zero_le _⟩ (st1 := []) (Nat.le_of_ble_eq_true rfl) dX12_expression_266 (fun w7 v8 h => ?_)
  refine V_goto X (tgt := 12) dX12_expression_269 (by decide) ?_
  refine V_sub X (ls1 := [(0, .ref (ad 150)), (1, .int l1), (2, .int l2)]) [0, 1, 2] rfl ?_
  exact HL12 _ _ _ _ h
set_option maxRecDepth 20000 in
theorem v_12_expression_b229 (X : CXq p s m args meth c cX12_expression 3 yX12_expression.cls ad cy D (AW ad) s.heap) (hr : meth.sig.returnType = none) (hZ : ad 1000 = 189) {Q : Mem → MemL → Prop} {L12 : Int32 → Int32 → Mem → MemL → Prop} (HL12 : ∀ (l1 : Int32) (l2 : Int32) (w : Mem) (wl : MemL), L12 l1 l2 w wl → V p l e (RM 3) s m args below meth c 3 ad cy D (AW ad) s.heap 0 0 (MQ below (va_Qv (fun (u : Mem × MemL) => Q u.1 u.2) (BM ad cy D wc) (AW ad)) args s 0 0 (AW ad)) wc w wl 12 [(0, .ref (ad 150)), (1, .int l1), (2, .int l2)] []) : ∀ (l1 : Int32) (l2 : Int32) (w : Mem) (wl : MemL), wp_12_expression_b229 Q L12 l1 l2 w wl → V p l e (RM 3) s m args below meth c 3 ad cy D (AW ad) s.heap 0 0 (MQ below (va_Qv (fun (u : Mem × MemL) => Q u.1 u.2) (BM ad cy D wc) (AW ad)) args s 0 0 (AW ad)) wc w wl 229 [(0, .ref (ad 150)), (1, .int l1), (2, .int l2)] [.ref (ad 150)] := by
  intro l1 l2 w wl h
  unfold wp_12_expression_b229 at h
  refine V_iconst X (v := (1 : Int32)) dX12_expression_229 (by decide) ?_
  refine V_goto X (tgt := 234) dX12_expression_230 (by decide) ?_
  refine V_sub X (ls1 := [(0, .ref (ad 150)), (1, .int l1), (2, .int l2)]) [0, 1, 2] rfl ?_
  exact v_12_expression_b234 X hr hZ HL12 _ _ _ _ _ h
set_option maxRecDepth 20000 in
theorem v_12_expression_b204 (X : CXq p s m args meth c cX12_expression 3 yX12_expression.cls ad cy D (AW ad) s.heap) (hr : meth.sig.returnType = none) (hZ : ad 1000 = 189) {Q : Mem → MemL → Prop} : ∀ (w : Mem) (wl : MemL), wp_12_expression_b204 Q w wl → V p l e (RM 3) s m args below meth c 3 ad cy D (AW ad) s.heap 0 0 (MQ below (va_Qv (fun (u : Mem × MemL) => Q u.1 u.2) (BM ad cy D wc) (AW ad)) args s 0 0 (AW ad)) wc w wl 204 [(0, .ref (ad 150))] [] := by
  intro w wl h
  unfold wp_12_expression_b204 at h
  refine V_aload_n X (i := 0) 0 dX12_expression_204 rfl rfl ?_
  refine V_iconst X (v := (0 : Int32)) dX12_expression_205 (by decide) ?_
  refine K_12_comesOut X (Or.inl q_1530) hZ h ⟨Nat.le_of_ble_eq_true rfl, Nat.le_of_ble_eq_true rfl⟩ ⟨Nat.zero_le _, Nat.zero_le _⟩ (st1 := []) (Nat.le_of_ble_eq_true rfl) dX12_expression_206 (fun w1 v2 h => ?_)
  exact V_vret_m X hr dX12_expression_209 h
set_option maxRecDepth 20000 in
theorem v_12_expression_b186 (X : CXq p s m args meth c cX12_expression 3 yX12_expression.cls ad cy D (AW ad) s.heap) (hr : meth.sig.returnType = none) (hZ : ad 1000 = 189) {Q : Mem → MemL → Prop} {L12 : Int32 → Int32 → Mem → MemL → Prop} (HL12 : ∀ (l1 : Int32) (l2 : Int32) (w : Mem) (wl : MemL), L12 l1 l2 w wl → V p l e (RM 3) s m args below meth c 3 ad cy D (AW ad) s.heap 0 0 (MQ below (va_Qv (fun (u : Mem × MemL) => Q u.1 u.2) (BM ad cy D wc) (AW ad)) args s 0 0 (AW ad)) wc w wl 12 [(0, .ref (ad 150)), (1, .int l1), (2, .int l2)] []) : ∀ (l1 : Int32) (s0 : Int32) (w : Mem) (wl : MemL), wp_12_expression_b186 Q L12 l1 s0 w wl → V p l e (RM 3) s m args below meth c 3 ad cy D (AW ad) s.heap 0 0 (MQ below (va_Qv (fun (u : Mem × MemL) => Q u.1 u.2) (BM ad cy D wc) (AW ad)) args s 0 0 (AW ad)) wc w wl 186 [(0, .ref (ad 150)), (1, .int l1)] [.int s0] := by
  intro l1 s0 w wl h
  unfold wp_12_expression_b186 at h
  refine V_istore_n X dX12_expression_186 rfl (by decide) rfl (ls1 := [(2, .int s0), (0, .ref (ad 150)), (1, .int l1)]) rfl ?_
  refine V_iload_n X (i := 2) 0 dX12_expression_187 rfl rfl ?_
  obtain ⟨ht, hf⟩ := h
  refine V_if_ne X (tgt := 210) dX12_expression_188 (by decide) (fun c => ?_) (fun c => ?_)
  · have h := ht c
    refine V_aload_n X (i := 0) 1 dX12_expression_210 rfl rfl ?_
    refine V_aload_n X (i := 0) 1 dX12_expression_211 rfl rfl ?_
    refine V_bipush X (v := (10 : Int32)) dX12_expression_212 (by decide) ?_
    refine K_12_is X (Or.inl q_1470) hZ h ⟨Nat.le_of_ble_eq_true rfl, Nat.le_of_ble_eq_true rfl⟩ ⟨Nat.zero_le _, Nat.zero_le _⟩ (st1 := [.ref (ad 150)]) (Nat.le_of_ble_eq_true rfl) dX12_expression_214 (fun r2 w1 v3 h => ?_)
    obtain ⟨ht, hf⟩ := h
    refine V_if_ne X (tgt := 229) dX12_expression_217 (by decide) (fun c => ?_) (fun c => ?_)
    · have h := ht c
      refine V_sub X (ls1 := [(0, .ref (ad 150)), (1, .int l1), (2, .int s0)]) [1, 2, 0] rfl ?_
      exact v_12_expression_b229 X hr hZ HL12 _ _ _ _ h
    · have h := hf c
      refine V_aload_n X (i := 0) 1 dX12_expression_220 rfl rfl ?_
      refine V_bipush X (v := (15 : Int32)) dX12_expression_221 (by decide) ?_
      refine K_12_is X (Or.inl q_1470) hZ h ⟨Nat.le_of_ble_eq_true rfl, Nat.le_of_ble_eq_true rfl⟩ ⟨Nat.zero_le _, Nat.zero_le _⟩ (st1 := [.ref (ad 150)]) (Nat.le_of_ble_eq_true rfl) dX12_expression_223 (fun r5 w4 v6 h => ?_)
      obtain ⟨ht, hf⟩ := h
      refine V_if_eq X (tgt := 233) dX12_expression_226 (by decide) (fun c => ?_) (fun c => ?_)
      · have h := ht c
        refine V_iconst X (v := (0 : Int32)) dX12_expression_233 (by decide) ?_
        refine V_sub X (ls1 := [(0, .ref (ad 150)), (1, .int l1), (2, .int s0)]) [1, 2, 0] rfl ?_
        exact v_12_expression_b234 X hr hZ HL12 _ _ _ _ _ h
      · have h := hf c
        refine V_sub X (ls1 := [(0, .ref (ad 150)), (1, .int l1), (2, .int s0)]) [1, 2, 0] rfl ?_
        exact v_12_expression_b229 X hr hZ HL12 _ _ _ _ h
  · have h := hf c
    refine V_aload_n X (i := 0) 1 dX12_expression_191 rfl rfl ?_
    refine G_12_215 X hZ dX12_expression_192 ?_
    refine V_iload_n X (i := 1) 2 dX12_expression_195 rfl rfl ?_
    obtain ⟨ht, hf⟩ := h
    refine V_icmp_le X (tgt := 204) dX12_expression_196 (by decide) (fun c => ?_) (fun c => ?_)
    · have h := ht c
      refine V_sub X (ls1 := [(0, .ref (ad 150))]) [1] rfl ?_
      exact v_12_expression_b204 X hr hZ _ _ h
    · have h := hf c
      refine V_aload_n X (i := 0) 1 dX12_expression_199 rfl rfl ?_
      refine V_iconst X (v := (1 : Int32)) dX12_expression_200 (by decide) ?_
      refine K_12_fail X (Or.inl q_1482) hZ h ⟨Nat.le_of_ble_eq_true rfl, Nat.le_of_ble_eq_true rfl⟩ ⟨Nat.zero_le _, Nat.zero_le _⟩ (st1 := []) (Nat.le_of_ble_eq_true rfl) dX12_expression_201 (fun w7 v8 h => ?_)
      refine V_sub X (ls1 := [(0, .ref (ad 150))]) [1] rfl ?_
      exact v_12_expression_b204 X hr hZ _ _ h
set_option maxRecDepth 20000 in
theorem v_12_expression_b181 (X : CXq p s m args meth c cX12_expression 3 yX12_expression.cls ad cy D (AW ad) s.heap) (hr : meth.sig.returnType = none) (hZ : ad 1000 = 189) {Q : Mem → MemL → Prop} {L12 : Int32 → Int32 → Mem → MemL → Prop} (HL12 : ∀ (l1 : Int32) (l2 : Int32) (w : Mem) (wl : MemL), L12 l1 l2 w wl → V p l e (RM 3) s m args below meth c 3 ad cy D (AW ad) s.heap 0 0 (MQ below (va_Qv (fun (u : Mem × MemL) => Q u.1 u.2) (BM ad cy D wc) (AW ad)) args s 0 0 (AW ad)) wc w wl 12 [(0, .ref (ad 150)), (1, .int l1), (2, .int l2)] []) : ∀ (l1 : Int32) (w : Mem) (wl : MemL), wp_12_expression_b181 Q L12 l1 w wl → V p l e (RM 3) s m args below meth c 3 ad cy D (AW ad) s.heap 0 0 (MQ below (va_Qv (fun (u : Mem × MemL) => Q u.1 u.2) (BM ad cy D wc) (AW ad)) args s 0 0 (AW ad)) wc w wl 181 [(0, .ref (ad 150)), (1, .int l1)] [] := by
  intro l1 w wl h
  unfold wp_12_expression_b181 at h
  refine V_iconst X (v := (1 : Int32)) dX12_expression_181 (by decide) ?_
  refine V_goto X (tgt := 186) dX12_expression_182 (by decide) ?_
  refine V_sub X (ls1 := [(0, .ref (ad 150)), (1, .int l1)]) [0, 1] rfl ?_
  exact v_12_expression_b186 X hr hZ HL12 _ _ _ _ h
set_option maxRecDepth 20000 in
theorem v_12_expression_b145 (X : CXq p s m args meth c cX12_expression 3 yX12_expression.cls ad cy D (AW ad) s.heap) (hr : meth.sig.returnType = none) (hZ : ad 1000 = 189) {Q : Mem → MemL → Prop} {L12 : Int32 → Int32 → Mem → MemL → Prop} (HL12 : ∀ (l1 : Int32) (l2 : Int32) (w : Mem) (wl : MemL), L12 l1 l2 w wl → V p l e (RM 3) s m args below meth c 3 ad cy D (AW ad) s.heap 0 0 (MQ below (va_Qv (fun (u : Mem × MemL) => Q u.1 u.2) (BM ad cy D wc) (AW ad)) args s 0 0 (AW ad)) wc w wl 12 [(0, .ref (ad 150)), (1, .int l1), (2, .int l2)] []) : ∀ (l1 : Int32) (w : Mem) (wl : MemL), wp_12_expression_b145 Q L12 l1 w wl → V p l e (RM 3) s m args below meth c 3 ad cy D (AW ad) s.heap 0 0 (MQ below (va_Qv (fun (u : Mem × MemL) => Q u.1 u.2) (BM ad cy D wc) (AW ad)) args s 0 0 (AW ad)) wc w wl 145 [(0, .ref (ad 150)), (1, .int l1)] [] := by
  intro l1 w wl h
  unfold wp_12_expression_b145 at h
  refine V_aload_n X (i := 0) 0 dX12_expression_145 rfl rfl ?_
  refine V_bipush X (v := (8 : Int32)) dX12_expression_146 (by decide) ?_
  refine K_12_is X (Or.inl q_1470) hZ h ⟨Nat.le_of_ble_eq_true rfl, Nat.le_of_ble_eq_true rfl⟩ ⟨Nat.zero_le _, Nat.zero_le _⟩ (st1 := []) (Nat.le_of_ble_eq_true rfl) dX12_expression_148 (fun r2 w1 v3 h => ?_)
  obtain ⟨ht, hf⟩ := h
  refine V_if_ne X (tgt := 181) dX12_expression_151 (by decide) (fun c => ?_) (fun c => ?_)
  · have h := ht c
    refine V_sub X (ls1 := [(0, .ref (ad 150)), (1, .int l1)]) [0, 1] rfl ?_
    exact v_12_expression_b181 X hr hZ HL12 _ _ _ h
  · have h := hf c
    refine V_aload_n X (i := 0) 0 dX12_expression_154 rfl rfl ?_
    refine V_bipush X (v := (9 : Int32)) dX12_expression_155 (by decide) ?_
    refine K_12_is X (Or.inl q_1470) hZ h ⟨Nat.le_of_ble_eq_true rfl, Nat.le_of_ble_eq_true rfl⟩ ⟨Nat.zero_le _, Nat.zero_le _⟩ (st1 := []) (Nat.le_of_ble_eq_true rfl) dX12_expression_157 (fun r5 w4 v6 h => ?_)
    obtain ⟨ht, hf⟩ := h
    refine V_if_ne X (tgt := 181) dX12_expression_160 (by decide) (fun c => ?_) (fun c => ?_)
    · have h := ht c
      refine V_sub X (ls1 := [(0, .ref (ad 150)), (1, .int l1)]) [0, 1] rfl ?_
      exact v_12_expression_b181 X hr hZ HL12 _ _ _ h
    · have h := hf c
      refine V_aload_n X (i := 0) 0 dX12_expression_163 rfl rfl ?_
      refine V_bipush X (v := (10 : Int32)) dX12_expression_164 (by decide) ?_
      refine K_12_is X (Or.inl q_1470) hZ h ⟨Nat.le_of_ble_eq_true rfl, Nat.le_of_ble_eq_true rfl⟩ ⟨Nat.zero_le _, Nat.zero_le _⟩ (st1 := []) (Nat.le_of_ble_eq_true rfl) dX12_expression_166 (fun r8 w7 v9 h => ?_)
      obtain ⟨ht, hf⟩ := h
      refine V_if_ne X (tgt := 181) dX12_expression_169 (by decide) (fun c => ?_) (fun c => ?_)
      · have h := ht c
        refine V_sub X (ls1 := [(0, .ref (ad 150)), (1, .int l1)]) [0, 1] rfl ?_
        exact v_12_expression_b181 X hr hZ HL12 _ _ _ h
      · have h := hf c
        refine V_aload_n X (i := 0) 0 dX12_expression_172 rfl rfl ?_
        refine V_bipush X (v := (15 : Int32)) dX12_expression_173 (by decide) ?_
        refine K_12_is X (Or.inl q_1470) hZ h ⟨Nat.le_of_ble_eq_true rfl, Nat.le_of_ble_eq_true rfl⟩ ⟨Nat.zero_le _, Nat.zero_le _⟩ (st1 := []) (Nat.le_of_ble_eq_true rfl) dX12_expression_175 (fun r11 w10 v12 h => ?_)
        obtain ⟨ht, hf⟩ := h
        refine V_if_eq X (tgt := 185) dX12_expression_178 (by decide) (fun c => ?_) (fun c => ?_)
        · have h := ht c
          refine V_iconst X (v := (0 : Int32)) dX12_expression_185 (by decide) ?_
          refine V_sub X (ls1 := [(0, .ref (ad 150)), (1, .int l1)]) [0, 1] rfl ?_
          exact v_12_expression_b186 X hr hZ HL12 _ _ _ _ h
        · have h := hf c
          refine V_sub X (ls1 := [(0, .ref (ad 150)), (1, .int l1)]) [0, 1] rfl ?_
          exact v_12_expression_b181 X hr hZ HL12 _ _ _ h
set_option maxRecDepth 20000 in
theorem v_12_expression_b96 (X : CXq p s m args meth c cX12_expression 3 yX12_expression.cls ad cy D (AW ad) s.heap) (hr : meth.sig.returnType = none) (hZ : ad 1000 = 189) {Q : Mem → MemL → Prop} {L12 : Int32 → Int32 → Mem → MemL → Prop} (HL12 : ∀ (l1 : Int32) (l2 : Int32) (w : Mem) (wl : MemL), L12 l1 l2 w wl → V p l e (RM 3) s m args below meth c 3 ad cy D (AW ad) s.heap 0 0 (MQ below (va_Qv (fun (u : Mem × MemL) => Q u.1 u.2) (BM ad cy D wc) (AW ad)) args s 0 0 (AW ad)) wc w wl 12 [(0, .ref (ad 150)), (1, .int l1), (2, .int l2)] []) : ∀ (n : Nat) (l1 : Int32) (w : Mem) (wl : MemL), wp_12_expression_b96 Q L12 n l1 w wl → V p l e (RM 3) s m args below meth c 3 ad cy D (AW ad) s.heap 0 0 (MQ below (va_Qv (fun (u : Mem × MemL) => Q u.1 u.2) (BM ad cy D wc) (AW ad)) args s 0 0 (AW ad)) wc w wl 96 [(0, .ref (ad 150)), (1, .int l1)] [] := by
  intro n
  induction n with
  | zero =>
    intro l1 w wl h
    exact h.elim
  | succ n ih =>
    intro l1 w wl h
    unfold wp_12_expression_b96 at h
    refine V_aload_n X (i := 0) 0 dX12_expression_96 rfl rfl ?_
    refine V_bipush X (v := (7 : Int32)) dX12_expression_97 (by decide) ?_
    refine K_12_is X (Or.inl q_1470) hZ h ⟨Nat.le_of_ble_eq_true rfl, Nat.le_of_ble_eq_true rfl⟩ ⟨Nat.zero_le _, Nat.zero_le _⟩ (st1 := []) (Nat.le_of_ble_eq_true rfl) dX12_expression_99 (fun r2 w1 v3 h => ?_)
    obtain ⟨ht, hf⟩ := h
    refine V_if_eq X (tgt := 145) dX12_expression_102 (by decide) (fun c => ?_) (fun c => ?_)
    · have h := ht c
      refine V_sub X (ls1 := [(0, .ref (ad 150)), (1, .int l1)]) [0, 1] rfl ?_
      exact v_12_expression_b145 X hr hZ HL12 _ _ _ h
    · have h := hf c
      refine V_aload_n X (i := 0) 0 dX12_expression_105 rfl rfl ?_
      refine G_12_215 X hZ dX12_expression_106 ?_
      refine V_iload_n X (i := 1) 1 dX12_expression_109 rfl rfl ?_
      obtain ⟨ht, hf⟩ := h
      refine V_icmp_le X (tgt := 145) dX12_expression_110 (by decide) (fun c => ?_) (fun c => ?_)
      · have h := ht c
        refine V_sub X (ls1 := [(0, .ref (ad 150)), (1, .int l1)]) [0, 1] rfl ?_
        exact v_12_expression_b145 X hr hZ HL12 _ _ _ h
      · have h := hf c
        refine V_aload_n X (i := 0) 0 dX12_expression_113 rfl rfl ?_
        refine V_iconst X (v := (0 : Int32)) dX12_expression_114 (by decide) ?_
        refine K_12_comesOut X (Or.inl q_1530) hZ h ⟨Nat.le_of_ble_eq_true rfl, Nat.le_of_ble_eq_true rfl⟩ ⟨Nat.zero_le _, Nat.zero_le _⟩ (st1 := []) (Nat.le_of_ble_eq_true rfl) dX12_expression_115 (fun w4 v5 h => ?_)
        refine V_aload_n X (i := 0) 0 dX12_expression_118 rfl rfl ?_
        refine V_dup X dX12_expression_119 rfl ?_
        refine G_12_276 X hZ dX12_expression_120 ?_
        refine V_iconst X (v := (1 : Int32)) dX12_expression_123 (by decide) ?_
        refine V_isub X dX12_expression_124 ?_
        obtain ⟨w6, ew6⟩ : ∃ y : Mem, y = st w4 150 43 ((w4 150 43) - (1 : Int32)) := ⟨_, rfl⟩
        have h := h w6 ew6
        refine U_12_276 X hZ rfl rfl dX12_expression_125 ew6 ?_
        refine V_aload_n X (i := 0) 0 dX12_expression_128 rfl rfl ?_
        refine V_dup X dX12_expression_129 rfl ?_
        refine G_12_215 X hZ dX12_expression_130 ?_
        refine V_iconst X (v := (1 : Int32)) dX12_expression_133 (by decide) ?_
        refine V_isub X dX12_expression_134 ?_
        obtain ⟨w7, ew7⟩ : ∃ y : Mem, y = st w6 150 12 ((w6 150 12) - (1 : Int32)) := ⟨_, rfl⟩
        have h := h w7 ew7
        refine U_12_215 X hZ rfl rfl dX12_expression_135 ew7 ?_
        refine V_aload_n X (i := 0) 0 dX12_expression_138 rfl rfl ?_
        refine K_12_goesOn X (Or.inl q_1478) hZ h ⟨Nat.le_of_ble_eq_true rfl, Nat.le_of_ble_eq_true rfl⟩ ⟨Nat.zero_le _, Nat.zero_le _⟩ (st1 := []) (Nat.le_of_ble_eq_true rfl) dX12_expression_139 (fun w8 v9 h => ?_)
        refine V_goto X (tgt := 96) dX12_expression_142 (by decide) ?_
        refine V_sub X (ls1 := [(0, .ref (ad 150)), (1, .int l1)]) [0, 1] rfl ?_
        exact ih _ _ _ h
set_option maxRecDepth 20000 in
theorem v_12_expression_b46 (X : CXq p s m args meth c cX12_expression 3 yX12_expression.cls ad cy D (AW ad) s.heap) (hr : meth.sig.returnType = none) (hZ : ad 1000 = 189) {Q : Mem → MemL → Prop} {L12 : Int32 → Int32 → Mem → MemL → Prop} (HL12 : ∀ (l1 : Int32) (l2 : Int32) (w : Mem) (wl : MemL), L12 l1 l2 w wl → V p l e (RM 3) s m args below meth c 3 ad cy D (AW ad) s.heap 0 0 (MQ below (va_Qv (fun (u : Mem × MemL) => Q u.1 u.2) (BM ad cy D wc) (AW ad)) args s 0 0 (AW ad)) wc w wl 12 [(0, .ref (ad 150)), (1, .int l1), (2, .int l2)] []) {L23 : Int32 → Mem → MemL → Prop} (HL23 : ∀ (l1 : Int32) (w : Mem) (wl : MemL), L23 l1 w wl → V p l e (RM 3) s m args below meth c 3 ad cy D (AW ad) s.heap 0 0 (MQ below (va_Qv (fun (u : Mem × MemL) => Q u.1 u.2) (BM ad cy D wc) (AW ad)) args s 0 0 (AW ad)) wc w wl 23 [(0, .ref (ad 150)), (1, .int l1)] []) : ∀ (l1 : Int32) (w : Mem) (wl : MemL), wp_12_expression_b46 Q L12 L23 l1 w wl → V p l e (RM 3) s m args below meth c 3 ad cy D (AW ad) s.heap 0 0 (MQ below (va_Qv (fun (u : Mem × MemL) => Q u.1 u.2) (BM ad cy D wc) (AW ad)) args s 0 0 (AW ad)) wc w wl 46 [(0, .ref (ad 150)), (1, .int l1)] [] := by
  intro l1 w wl h
  unfold wp_12_expression_b46 at h
  refine V_aload_n X (i := 0) 0 dX12_expression_46 rfl rfl ?_
  refine V_dup X dX12_expression_47 rfl ?_
  refine G_12_215 X hZ dX12_expression_48 ?_
  refine V_iconst X (v := (1 : Int32)) dX12_expression_51 (by decide) ?_
  refine V_iadd X dX12_expression_52 ?_
  obtain ⟨w1, ew1⟩ : ∃ y : Mem, y = st w 150 12 ((w 150 12) + (1 : Int32)) := ⟨_, rfl⟩
  have h := h w1 ew1
  refine U_12_215 X hZ rfl rfl dX12_expression_53 ew1 ?_
  refine V_aload_n X (i := 0) 0 dX12_expression_56 rfl rfl ?_
  refine K_12_goesOn X (Or.inl q_1478) hZ h ⟨Nat.le_of_ble_eq_true rfl, Nat.le_of_ble_eq_true rfl⟩ ⟨Nat.zero_le _, Nat.zero_le _⟩ (st1 := []) (Nat.le_of_ble_eq_true rfl) dX12_expression_57 (fun w2 v3 h => ?_)
  refine V_aload_n X (i := 0) 0 dX12_expression_60 rfl rfl ?_
  refine G_12_98 X hZ dX12_expression_61 ?_
  refine V_aload_n X (i := 0) 0 dX12_expression_64 rfl rfl ?_
  refine G_12_276 X hZ dX12_expression_65 ?_
  refine V_bipush X (v := (6 : Int32)) dX12_expression_68 (by decide) ?_
  obtain ⟨g4, h⟩ := h
  obtain ⟨w5, ew5⟩ : ∃ y : Mem, y = st w2 177 (ix (w2 150 43)) (6 : Int32) := ⟨_, rfl⟩
  have h := h w5 ew5
  refine V_iast_m X (rfl : SLq 177 = 64) (hzk hZ (by decide)) (rfl : SK 177 = 14) g4 dX12_expression_70 ew5 ?_
  refine V_aload_n X (i := 0) 0 dX12_expression_71 rfl rfl ?_
  refine V_dup X dX12_expression_72 rfl ?_
  refine G_12_276 X hZ dX12_expression_73 ?_
  refine V_iconst X (v := (1 : Int32)) dX12_expression_76 (by decide) ?_
  refine V_iadd X dX12_expression_77 ?_
  obtain ⟨w6, ew6⟩ : ∃ y : Mem, y = st w5 150 43 ((w5 150 43) + (1 : Int32)) := ⟨_, rfl⟩
  have h := h w6 ew6
  refine U_12_276 X hZ rfl rfl dX12_expression_78 ew6 ?_
  refine V_goto X (tgt := 23) dX12_expression_81 (by decide) ?_
  refine V_sub X (ls1 := [(0, .ref (ad 150)), (1, .int l1)]) [0, 1] rfl ?_
  exact HL23 _ _ _ h
set_option maxRecDepth 20000 in
theorem v_12_expression_b23 (X : CXq p s m args meth c cX12_expression 3 yX12_expression.cls ad cy D (AW ad) s.heap) (hr : meth.sig.returnType = none) (hZ : ad 1000 = 189) {Q : Mem → MemL → Prop} {L12 : Int32 → Int32 → Mem → MemL → Prop} (HL12 : ∀ (l1 : Int32) (l2 : Int32) (w : Mem) (wl : MemL), L12 l1 l2 w wl → V p l e (RM 3) s m args below meth c 3 ad cy D (AW ad) s.heap 0 0 (MQ below (va_Qv (fun (u : Mem × MemL) => Q u.1 u.2) (BM ad cy D wc) (AW ad)) args s 0 0 (AW ad)) wc w wl 12 [(0, .ref (ad 150)), (1, .int l1), (2, .int l2)] []) : ∀ (n : Nat) (l1 : Int32) (w : Mem) (wl : MemL), wp_12_expression_b23 Q L12 n l1 w wl → V p l e (RM 3) s m args below meth c 3 ad cy D (AW ad) s.heap 0 0 (MQ below (va_Qv (fun (u : Mem × MemL) => Q u.1 u.2) (BM ad cy D wc) (AW ad)) args s 0 0 (AW ad)) wc w wl 23 [(0, .ref (ad 150)), (1, .int l1)] [] := by
  intro n
  induction n with
  | zero =>
    intro l1 w wl h
    exact h.elim
  | succ n ih =>
    intro l1 w wl h
    unfold wp_12_expression_b23 at h
    refine V_aload_n X (i := 0) 0 dX12_expression_23 rfl rfl ?_
    refine V_bipush X (v := (6 : Int32)) dX12_expression_24 (by decide) ?_
    refine K_12_is X (Or.inl q_1470) hZ h ⟨Nat.le_of_ble_eq_true rfl, Nat.le_of_ble_eq_true rfl⟩ ⟨Nat.zero_le _, Nat.zero_le _⟩ (st1 := []) (Nat.le_of_ble_eq_true rfl) dX12_expression_26 (fun r2 w1 v3 h => ?_)
    obtain ⟨ht, hf⟩ := h
    refine V_if_eq X (tgt := 84) dX12_expression_29 (by decide) (fun c => ?_) (fun c => ?_)
    · have h := ht c
      refine V_aload_n X (i := 0) 0 dX12_expression_84 rfl rfl ?_
      refine K_12_unit X (Or.inl q_1522) hZ h ⟨Nat.le_of_ble_eq_true rfl, Nat.le_of_ble_eq_true rfl⟩ ⟨Nat.zero_le _, Nat.zero_le _⟩ (st1 := []) (Nat.le_of_ble_eq_true rfl) dX12_expression_85 (fun w4 v5 h => ?_)
      refine V_aload_n X (i := 0) 0 dX12_expression_88 rfl rfl ?_
      refine G_12_188 X hZ dX12_expression_89 ?_
      obtain ⟨ht, hf⟩ := h
      refine V_if_le X (tgt := 96) dX12_expression_92 (by decide) (fun c => ?_) (fun c => ?_)
      · have h := ht c
        refine V_sub X (ls1 := [(0, .ref (ad 150)), (1, .int l1)]) [0, 1] rfl ?_
        obtain ⟨nn, h⟩ := h
        exact v_12_expression_b96 X hr hZ HL12 nn _ _ _ h
      · have h := hf c
        exact V_vret_m X hr dX12_expression_95 h
    · have h := hf c
      refine V_aload_n X (i := 0) 0 dX12_expression_32 rfl rfl ?_
      refine G_12_215 X hZ dX12_expression_33 ?_
      refine V_bipush X (v := (6 : Int32)) dX12_expression_36 (by decide) ?_
      obtain ⟨ht, hf⟩ := h
      refine V_icmp_ne X (tgt := 46) dX12_expression_38 (by decide) (fun c => ?_) (fun c => ?_)
      · have h := ht c
        refine V_sub X (ls1 := [(0, .ref (ad 150)), (1, .int l1)]) [0, 1] rfl ?_
        exact v_12_expression_b46 X hr hZ HL12 ih _ _ _ h
      · have h := hf c
        refine V_aload_n X (i := 0) 0 dX12_expression_41 rfl rfl ?_
        refine V_iconst X (v := (2 : Int32)) dX12_expression_42 (by decide) ?_
        refine K_12_fail X (Or.inl q_1482) hZ h ⟨Nat.le_of_ble_eq_true rfl, Nat.le_of_ble_eq_true rfl⟩ ⟨Nat.zero_le _, Nat.zero_le _⟩ (st1 := []) (Nat.le_of_ble_eq_true rfl) dX12_expression_43 (fun w6 v7 h => ?_)
        refine V_sub X (ls1 := [(0, .ref (ad 150)), (1, .int l1)]) [0, 1] rfl ?_
        exact v_12_expression_b46 X hr hZ HL12 ih _ _ _ h
set_option maxRecDepth 20000 in
theorem v_12_expression_b12 (X : CXq p s m args meth c cX12_expression 3 yX12_expression.cls ad cy D (AW ad) s.heap) (hr : meth.sig.returnType = none) (hZ : ad 1000 = 189) {Q : Mem → MemL → Prop} : ∀ (n : Nat) (l1 : Int32) (l2 : Int32) (w : Mem) (wl : MemL), wp_12_expression_b12 Q n l1 l2 w wl → V p l e (RM 3) s m args below meth c 3 ad cy D (AW ad) s.heap 0 0 (MQ below (va_Qv (fun (u : Mem × MemL) => Q u.1 u.2) (BM ad cy D wc) (AW ad)) args s 0 0 (AW ad)) wc w wl 12 [(0, .ref (ad 150)), (1, .int l1), (2, .int l2)] [] := by
  intro n
  induction n with
  | zero =>
    intro l1 l2 w wl h
    exact h.elim
  | succ n ih =>
    intro l1 l2 w wl h
    unfold wp_12_expression_b12 at h
    refine V_iload_n X (i := 2) 2 dX12_expression_12 rfl rfl ?_
    obtain ⟨ht, hf⟩ := h
    refine V_if_eq X (tgt := 272) dX12_expression_13 (by decide) (fun c => ?_) (fun c => ?_)
    · have h := ht c
      exact V_vret_m X hr dX12_expression_272 h
    · have h := hf c
      refine V_aload_n X (i := 0) 0 dX12_expression_16 rfl rfl ?_
      refine G_12_188 X hZ dX12_expression_17 ?_
      obtain ⟨ht, hf⟩ := h
      refine V_if_ne X (tgt := 272) dX12_expression_20 (by decide) (fun c => ?_) (fun c => ?_)
      · have h := ht c
        exact V_vret_m X hr dX12_expression_272 h
      · have h := hf c
        refine V_sub X (ls1 := [(0, .ref (ad 150)), (1, .int l1)]) [0, 1] rfl ?_
        obtain ⟨nn, h⟩ := h
        exact v_12_expression_b23 X hr hZ ih nn _ _ _ h
set_option maxRecDepth 20000 in
theorem v_12_expression (X : CXq p s m args meth c cX12_expression 3 yX12_expression.cls ad cy D (AW ad) s.heap) (hr : meth.sig.returnType = none) (hZ : ad 1000 = 189) {w : Mem} {wl : MemL} {Q : Mem → MemL → Prop} (h : wp_12_expression w wl Q) : V p l e (RM 3) s m args below meth c 3 ad cy D (AW ad) s.heap 0 0 (MQ below (va_Qv (fun (u : Mem × MemL) => Q u.1 u.2) (BM ad cy D wc) (AW ad)) args s 0 0 (AW ad)) wc w wl 0 [(0, .ref (ad 150))] [] := by
  unfold wp_12_expression at h
  refine V_aload_n X (i := 0) 0 dX12_expression_0 rfl rfl ?_
  refine V_iconst X (v := (0 : Int32)) dX12_expression_1 (by decide) ?_
  obtain ⟨w1, ew1⟩ : ∃ y : Mem, y = st w 150 43 (0 : Int32) := ⟨_, rfl⟩
  have h := h w1 ew1
  refine U_12_276 X hZ rfl rfl dX12_expression_2 ew1 ?_
  refine V_aload_n X (i := 0) 0 dX12_expression_5 rfl rfl ?_
  refine G_12_215 X hZ dX12_expression_6 ?_
  obtain ⟨x2, ex2⟩ : ∃ y : Int32, y = (w1 150 12) := ⟨_, rfl⟩
  have h := h x2 ex2
  refine V_istore_n X dX12_expression_9 rfl (by decide) ex2 (ls1 := [(1, .int x2), (0, .ref (ad 150))]) rfl ?_
  refine V_iconst X (v := (1 : Int32)) dX12_expression_10 (by decide) ?_
  refine V_istore_n X dX12_expression_11 rfl (by decide) rfl (ls1 := [(2, .int (1 : Int32)), (1, .int x2), (0, .ref (ad 150))]) rfl ?_
  refine V_sub X (ls1 := [(0, .ref (ad 150)), (1, .int x2), (2, .int (1 : Int32))]) [2, 1, 0] rfl ?_
  obtain ⟨nn, h⟩ := h
  exact v_12_expression_b12 X hr hZ nn _ _ _ _ h
theorem c_12_expression (hinj : INJ ad) (hZ : ad 1000 = 189) {w : Mem} {wl : MemL} {Q : Mem → MemL → Prop} (h : wp_12_expression w wl Q) : Met l yX12_expression (TBq yX12_expression cX12_expression 3 none) (RM 3) (va_Pc [.ref (ad 150)] (PB ad cy D (cmb wc w) wl)) (va_Qv (fun (u : Mem × MemL) => Q u.1 u.2) (BM ad cy D wc) (AW ad)) 0 0 (AW ad) := M_enter (by decide) (Nat.le_of_ble_eq_true rfl) hinj (fun p e s m args below meth c X hr => v_12_expression X hr hZ h)
theorem mf_12_expression : MFV yX12_expression cX12_expression 3 none yX12_expression.cls 0 := ⟨q_1521, q_1520, qs_59, q_14, by decide⟩
theorem K_12_expression {own : String} {idx : Nat} (X : CXq p s m args meth c cc nL own ad cy D A H0) (hL : LK own idx yX12_expression) (hZ : ad 1000 = 189) {w : Mem} {wl : MemL} {Q : Mem → MemL → Prop} (h : wp_12_expression w wl Q) (hR : (RM 3).frames + 1 ≤ R.frames ∧ 8 + (3 + 11) + (RM 3).locals ≤ R.locals) (hce : ce ≤ R.cells ∧ sl ≤ R.slots) (hcat : (st1.map fun v => v.category).sum ≤ 8) (hd : decode cc pc = .ok (.invokevirtual idx, 3)) (kk : ∀ (u : Mem) (v : MemL), Q u v → V p l e R s m args below meth c nL ad cy D A H0 ce sl Qs wc u v (pc + 3) ls st1) : V p l e R s m args below meth c nL ad cy D A H0 ce sl Qs wc w wl pc ls (.ref (ad 150) :: st1) := V_callVV_m X mf_12_expression hL (rfl : vwCl[12]? = some (RX12, TX12, 72)) (by decide) (rfl : SK 150 = 12) (hzk hZ (by decide)).2 (c_12_expression X.2.2.2.2.2.2.2.1 hZ h) (As := []) rfl ⟨rfl, rfl⟩ hR hce st1 rfl hcat hd kk
set_option maxRecDepth 20000 in
theorem v_12_term_b24 (X : CXq p s m args meth c cX12_term 1 yX12_term.cls ad cy D (AW ad) s.heap) (hr : meth.sig.returnType = none) (hZ : ad 1000 = 189) {Q : Mem → MemL → Prop} : ∀ (w : Mem) (wl : MemL), wp_12_term_b24 Q w wl → V p l e (RM 4) s m args below meth c 1 ad cy D (AW ad) s.heap 0 0 (MQ below (va_Qv (fun (u : Mem × MemL) => Q u.1 u.2) (BM ad cy D wc) (AW ad)) args s 0 0 (AW ad)) wc w wl 24 [(0, .ref (ad 150))] [] := by
  intro w wl h
  unfold wp_12_term_b24 at h
  refine V_aload_n X (i := 0) 0 dX12_term_24 rfl rfl ?_
  refine G_12_89 X hZ dX12_term_25 ?_
  refine V_aload_n X (i := 0) 0 dX12_term_28 rfl rfl ?_
  refine G_12_227 X hZ dX12_term_29 ?_
  refine V_aload_n X (i := 0) 0 dX12_term_32 rfl rfl ?_
  refine G_12_230 X hZ dX12_term_33 ?_
  obtain ⟨g1, h⟩ := h
  obtain ⟨w2, ew2⟩ : ∃ y : Mem, y = st w 174 (ix (w 150 33)) (w 150 39) := ⟨_, rfl⟩
  have h := h w2 ew2
  refine V_iast_m X (rfl : SLq 174 = 260) (hzk hZ (by decide)) (rfl : SK 174 = 14) g1 dX12_term_36 ew2 ?_
  refine V_aload_n X (i := 0) 0 dX12_term_37 rfl rfl ?_
  refine V_dup X dX12_term_38 rfl ?_
  refine G_12_227 X hZ dX12_term_39 ?_
  refine V_iconst X (v := (1 : Int32)) dX12_term_42 (by decide) ?_
  refine V_iadd X dX12_term_43 ?_
  obtain ⟨w3, ew3⟩ : ∃ y : Mem, y = st w2 150 33 ((w2 150 33) + (1 : Int32)) := ⟨_, rfl⟩
  have h := h w3 ew3
  refine U_12_227 X hZ rfl rfl dX12_term_44 ew3 ?_
  exact V_vret_m X hr dX12_term_47 h
set_option maxRecDepth 20000 in
theorem v_12_term (X : CXq p s m args meth c cX12_term 1 yX12_term.cls ad cy D (AW ad) s.heap) (hr : meth.sig.returnType = none) (hZ : ad 1000 = 189) {w : Mem} {wl : MemL} {Q : Mem → MemL → Prop} (h : wp_12_term w wl Q) : V p l e (RM 4) s m args below meth c 1 ad cy D (AW ad) s.heap 0 0 (MQ below (va_Qv (fun (u : Mem × MemL) => Q u.1 u.2) (BM ad cy D wc) (AW ad)) args s 0 0 (AW ad)) wc w wl 0 [(0, .ref (ad 150))] [] := by
  unfold wp_12_term at h
  refine V_aload_n X (i := 0) 0 dX12_term_0 rfl rfl ?_
  refine G_12_86 X hZ dX12_term_1 ?_
  refine V_aload_n X (i := 0) 0 dX12_term_4 rfl rfl ?_
  refine G_12_227 X hZ dX12_term_5 ?_
  refine V_aload_n X (i := 0) 0 dX12_term_8 rfl rfl ?_
  refine G_12_230 X hZ dX12_term_9 ?_
  obtain ⟨g1, h⟩ := h
  obtain ⟨w2, ew2⟩ : ∃ y : Mem, y = st w 173 (ix (w 150 33)) (w 150 39) := ⟨_, rfl⟩
  have h := h w2 ew2
  refine V_iast_m X (rfl : SLq 173 = 260) (hzk hZ (by decide)) (rfl : SK 173 = 14) g1 dX12_term_12 ew2 ?_
  refine V_aload_n X (i := 0) 0 dX12_term_13 rfl rfl ?_
  refine G_12_188 X hZ dX12_term_14 ?_
  obtain ⟨ht, hf⟩ := h
  refine V_if_ne X (tgt := 24) dX12_term_17 (by decide) (fun c => ?_) (fun c => ?_)
  · have h := ht c
    refine V_sub X (ls1 := [(0, .ref (ad 150))]) [0] rfl ?_
    exact v_12_term_b24 X hr hZ _ _ h
  · have h := hf c
    refine V_aload_n X (i := 0) 0 dX12_term_20 rfl rfl ?_
    refine K_12_expression X (Or.inl q_1518) hZ h ⟨Nat.le_of_ble_eq_true rfl, Nat.le_of_ble_eq_true rfl⟩ ⟨Nat.zero_le _, Nat.zero_le _⟩ (st1 := []) (Nat.le_of_ble_eq_true rfl) dX12_term_21 (fun w3 v4 h => ?_)
    refine V_sub X (ls1 := [(0, .ref (ad 150))]) [0] rfl ?_
    exact v_12_term_b24 X hr hZ _ _ h
theorem c_12_term (hinj : INJ ad) (hZ : ad 1000 = 189) {w : Mem} {wl : MemL} {Q : Mem → MemL → Prop} (h : wp_12_term w wl Q) : Met l yX12_term (TBq yX12_term cX12_term 1 none) (RM 4) (va_Pc [.ref (ad 150)] (PB ad cy D (cmb wc w) wl)) (va_Qv (fun (u : Mem × MemL) => Q u.1 u.2) (BM ad cy D wc) (AW ad)) 0 0 (AW ad) := M_enter (by decide) (Nat.le_of_ble_eq_true rfl) hinj (fun p e s m args below meth c X hr => v_12_term X hr hZ h)
theorem mf_12_term : MFV yX12_term cX12_term 1 none yX12_term.cls 0 := ⟨q_1537, q_1536, qs_63, q_14, by decide⟩
theorem K_12_term {own : String} {idx : Nat} (X : CXq p s m args meth c cc nL own ad cy D A H0) (hL : LK own idx yX12_term) (hZ : ad 1000 = 189) {w : Mem} {wl : MemL} {Q : Mem → MemL → Prop} (h : wp_12_term w wl Q) (hR : (RM 4).frames + 1 ≤ R.frames ∧ 8 + (1 + 11) + (RM 4).locals ≤ R.locals) (hce : ce ≤ R.cells ∧ sl ≤ R.slots) (hcat : (st1.map fun v => v.category).sum ≤ 8) (hd : decode cc pc = .ok (.invokevirtual idx, 3)) (kk : ∀ (u : Mem) (v : MemL), Q u v → V p l e R s m args below meth c nL ad cy D A H0 ce sl Qs wc u v (pc + 3) ls st1) : V p l e R s m args below meth c nL ad cy D A H0 ce sl Qs wc w wl pc ls (.ref (ad 150) :: st1) := V_callVV_m X mf_12_term hL (rfl : vwCl[12]? = some (RX12, TX12, 72)) (by decide) (rfl : SK 150 = 12) (hzk hZ (by decide)).2 (c_12_term X.2.2.2.2.2.2.2.1 hZ h) (As := []) rfl ⟨rfl, rfl⟩ hR hce st1 rfl hcat hd kk
set_option maxRecDepth 20000 in
theorem v_12_tellLaw_b129 (X : CXq p s m args meth c cX12_tellLaw 4 yX12_tellLaw.cls ad cy D (AW ad) s.heap) (hr : meth.sig.returnType = none) (hZ : ad 1000 = 189) {Q : Mem → MemL → Prop} : ∀ (l1 : Int32) (l2 : Int32) (w : Mem) (wl : MemL), wp_12_tellLaw_b129 Q l1 l2 w wl → V p l e (RM 5) s m args below meth c 4 ad cy D (AW ad) s.heap 0 0 (MQ below (va_Qv (fun (u : Mem × MemL) => Q u.1 u.2) (BM ad cy D wc) (AW ad)) args s 0 0 (AW ad)) wc w wl 129 [(0, .ref (ad 150)), (1, .int l1), (2, .int l2)] [] := by
  intro l1 l2 w wl h
  unfold wp_12_tellLaw_b129 at h
  refine V_aload_n X (i := 0) 0 dX12_tellLaw_129 rfl rfl ?_
  refine G_12_76 X hZ dX12_tellLaw_130 ?_
  refine V_aload_n X (i := 0) 0 dX12_tellLaw_133 rfl rfl ?_
  refine G_12_227 X hZ dX12_tellLaw_134 ?_
  refine V_iconst X (v := (0 : Int32)) dX12_tellLaw_137 (by decide) ?_
  obtain ⟨g1, h⟩ := h
  obtain ⟨w2, ew2⟩ : ∃ y : Mem, y = st w 170 (ix (w 150 33)) (vp_nar .boolean (0 : Int32)) := ⟨_, rfl⟩
  have h := h w2 ew2
  refine V_zast_m X (rfl : SLq 170 = 260) (hzk hZ (by decide)) (rfl : SK 170 = 16) g1 dX12_tellLaw_138 ew2 ?_
  refine V_aload_n X (i := 0) 0 dX12_tellLaw_139 rfl rfl ?_
  refine K_12_term X (Or.inl q_1534) hZ h ⟨Nat.le_of_ble_eq_true rfl, Nat.le_of_ble_eq_true rfl⟩ ⟨Nat.zero_le _, Nat.zero_le _⟩ (st1 := []) (Nat.le_of_ble_eq_true rfl) dX12_tellLaw_140 (fun w3 v4 h => ?_)
  refine V_aload_n X (i := 0) 0 dX12_tellLaw_143 rfl rfl ?_
  refine V_iconst X (v := (4 : Int32)) dX12_tellLaw_144 (by decide) ?_
  refine K_12_must X (Or.inl q_1498) hZ h ⟨Nat.le_of_ble_eq_true rfl, Nat.le_of_ble_eq_true rfl⟩ ⟨Nat.zero_le _, Nat.zero_le _⟩ (st1 := []) (Nat.le_of_ble_eq_true rfl) dX12_tellLaw_145 (fun w5 v6 h => ?_)
  refine V_aload_n X (i := 0) 0 dX12_tellLaw_148 rfl rfl ?_
  refine G_12_188 X hZ dX12_tellLaw_149 ?_
  obtain ⟨ht, hf⟩ := h
  refine V_if_le X (tgt := 156) dX12_tellLaw_152 (by decide) (fun c => ?_) (fun c => ?_)
  · have h := ht c
    refine V_aload_n X (i := 0) 0 dX12_tellLaw_156 rfl rfl ?_
    refine G_12_70 X hZ dX12_tellLaw_157 ?_
    refine V_iconst X (v := (5 : Int32)) dX12_tellLaw_160 (by decide) ?_
    refine V_aload_n X (i := 0) 0 dX12_tellLaw_161 rfl rfl ?_
    refine G_12_221 X hZ dX12_tellLaw_162 ?_
    refine V_imul X dX12_tellLaw_165 ?_
    refine V_iload_n X (i := 1) 1 dX12_tellLaw_166 rfl rfl ?_
    refine V_iadd X dX12_tellLaw_167 ?_
    refine V_iload_n X (i := 2) 2 dX12_tellLaw_168 rfl rfl ?_
    obtain ⟨g7, h⟩ := h
    obtain ⟨w8, ew8⟩ : ∃ y : Mem, y = st w5 168 (ix (((5 : Int32) * (w5 150 19)) + l1)) l2 := ⟨_, rfl⟩
    have h := h w8 ew8
    refine V_iast_m X (rfl : SLq 168 = 10) (hzk hZ (by decide)) (rfl : SK 168 = 14) g7 dX12_tellLaw_169 ew8 ?_
    refine V_aload_n X (i := 0) 0 dX12_tellLaw_170 rfl rfl ?_
    refine G_12_73 X hZ dX12_tellLaw_171 ?_
    refine V_iconst X (v := (5 : Int32)) dX12_tellLaw_174 (by decide) ?_
    refine V_aload_n X (i := 0) 0 dX12_tellLaw_175 rfl rfl ?_
    refine G_12_221 X hZ dX12_tellLaw_176 ?_
    refine V_imul X dX12_tellLaw_179 ?_
    refine V_iload_n X (i := 1) 1 dX12_tellLaw_180 rfl rfl ?_
    refine V_iadd X dX12_tellLaw_181 ?_
    refine V_aload_n X (i := 0) 0 dX12_tellLaw_182 rfl rfl ?_
    refine G_12_227 X hZ dX12_tellLaw_183 ?_
    obtain ⟨g9, h⟩ := h
    obtain ⟨w10, ew10⟩ : ∃ y : Mem, y = st w8 169 (ix (((5 : Int32) * (w8 150 19)) + l1)) (w8 150 33) := ⟨_, rfl⟩
    have h := h w10 ew10
    refine V_iast_m X (rfl : SLq 169 = 10) (hzk hZ (by decide)) (rfl : SK 169 = 14) g9 dX12_tellLaw_186 ew10 ?_
    exact V_vret_m X hr dX12_tellLaw_187 h
  · have h := hf c
    exact V_vret_m X hr dX12_tellLaw_155 h
set_option maxRecDepth 20000 in
theorem v_12_tellLaw_b110 (X : CXq p s m args meth c cX12_tellLaw 4 yX12_tellLaw.cls ad cy D (AW ad) s.heap) (hr : meth.sig.returnType = none) (hZ : ad 1000 = 189) {Q : Mem → MemL → Prop} {L12 : Int32 → Int32 → Int32 → Mem → MemL → Prop} (HL12 : ∀ (l1 : Int32) (l2 : Int32) (l3 : Int32) (w : Mem) (wl : MemL), L12 l1 l2 l3 w wl → V p l e (RM 5) s m args below meth c 4 ad cy D (AW ad) s.heap 0 0 (MQ below (va_Qv (fun (u : Mem × MemL) => Q u.1 u.2) (BM ad cy D wc) (AW ad)) args s 0 0 (AW ad)) wc w wl 12 [(0, .ref (ad 150)), (1, .int l1), (2, .int l2), (3, .int l3)] []) : ∀ (l1 : Int32) (l2 : Int32) (l3 : Int32) (w : Mem) (wl : MemL), wp_12_tellLaw_b110 Q L12 l1 l2 l3 w wl → V p l e (RM 5) s m args below meth c 4 ad cy D (AW ad) s.heap 0 0 (MQ below (va_Qv (fun (u : Mem × MemL) => Q u.1 u.2) (BM ad cy D wc) (AW ad)) args s 0 0 (AW ad)) wc w wl 110 [(0, .ref (ad 150)), (1, .int l1), (2, .int l2), (3, .int l3)] [] := by
  intro l1 l2 l3 w wl h
  unfold wp_12_tellLaw_b110 at h
  refine V_aload_n X (i := 0) 0 dX12_tellLaw_110 rfl rfl ?_
  refine V_bipush X (v := (36 : Int32)) dX12_tellLaw_111 (by decide) ?_
  refine K_12_must X (Or.inl q_1498) hZ h ⟨Nat.le_of_ble_eq_true rfl, Nat.le_of_ble_eq_true rfl⟩ ⟨Nat.zero_le _, Nat.zero_le _⟩ (st1 := []) (Nat.le_of_ble_eq_true rfl) dX12_tellLaw_113 (fun w1 v2 h => ?_)
  refine V_aload_n X (i := 0) 0 dX12_tellLaw_116 rfl rfl ?_
  refine K_12_term X (Or.inl q_1534) hZ h ⟨Nat.le_of_ble_eq_true rfl, Nat.le_of_ble_eq_true rfl⟩ ⟨Nat.zero_le _, Nat.zero_le _⟩ (st1 := []) (Nat.le_of_ble_eq_true rfl) dX12_tellLaw_117 (fun w3 v4 h => ?_)
  refine V_aload_n X (i := 0) 0 dX12_tellLaw_120 rfl rfl ?_
  refine V_bipush X (v := (37 : Int32)) dX12_tellLaw_121 (by decide) ?_
  refine K_12_must X (Or.inl q_1498) hZ h ⟨Nat.le_of_ble_eq_true rfl, Nat.le_of_ble_eq_true rfl⟩ ⟨Nat.zero_le _, Nat.zero_le _⟩ (st1 := []) (Nat.le_of_ble_eq_true rfl) dX12_tellLaw_123 (fun w5 v6 h => ?_)
  refine V_goto X (tgt := 12) dX12_tellLaw_126 (by decide) ?_
  refine V_sub X (ls1 := [(0, .ref (ad 150)), (1, .int l1), (2, .int l2), (3, .int l3)]) [0, 1, 2, 3] rfl ?_
  exact HL12 _ _ _ _ _ h
set_option maxRecDepth 20000 in
theorem v_12_tellLaw_b38 (X : CXq p s m args meth c cX12_tellLaw 4 yX12_tellLaw.cls ad cy D (AW ad) s.heap) (hr : meth.sig.returnType = none) (hZ : ad 1000 = 189) {Q : Mem → MemL → Prop} {L12 : Int32 → Int32 → Int32 → Mem → MemL → Prop} (HL12 : ∀ (l1 : Int32) (l2 : Int32) (l3 : Int32) (w : Mem) (wl : MemL), L12 l1 l2 l3 w wl → V p l e (RM 5) s m args below meth c 4 ad cy D (AW ad) s.heap 0 0 (MQ below (va_Qv (fun (u : Mem × MemL) => Q u.1 u.2) (BM ad cy D wc) (AW ad)) args s 0 0 (AW ad)) wc w wl 12 [(0, .ref (ad 150)), (1, .int l1), (2, .int l2), (3, .int l3)] []) : ∀ (l1 : Int32) (l2 : Int32) (l3 : Int32) (w : Mem) (wl : MemL), wp_12_tellLaw_b38 Q L12 l1 l2 l3 w wl → V p l e (RM 5) s m args below meth c 4 ad cy D (AW ad) s.heap 0 0 (MQ below (va_Qv (fun (u : Mem × MemL) => Q u.1 u.2) (BM ad cy D wc) (AW ad)) args s 0 0 (AW ad)) wc w wl 38 [(0, .ref (ad 150)), (1, .int l1), (2, .int l2), (3, .int l3)] [] := by
  intro l1 l2 l3 w wl h
  unfold wp_12_tellLaw_b38 at h
  refine V_aload_n X (i := 0) 0 dX12_tellLaw_38 rfl rfl ?_
  refine G_12_188 X hZ dX12_tellLaw_39 ?_
  obtain ⟨ht, hf⟩ := h
  refine V_if_le X (tgt := 46) dX12_tellLaw_42 (by decide) (fun c => ?_) (fun c => ?_)
  · have h := ht c
    obtain ⟨x1, ex1⟩ : ∃ y : Int32, y = l3 + (1 : Int32) := ⟨_, rfl⟩
    have h := h x1 ex1
    refine V_iinc X 3 dX12_tellLaw_46 rfl (by decide) (by rw [ex1]; rfl) (ls1 := [(3, .int x1), (0, .ref (ad 150)), (1, .int l1), (2, .int l2)]) rfl ?_
    refine V_aload_n X (i := 0) 1 dX12_tellLaw_49 rfl rfl ?_
    refine K_12_goesOn X (Or.inl q_1478) hZ h ⟨Nat.le_of_ble_eq_true rfl, Nat.le_of_ble_eq_true rfl⟩ ⟨Nat.zero_le _, Nat.zero_le _⟩ (st1 := []) (Nat.le_of_ble_eq_true rfl) dX12_tellLaw_50 (fun w2 v3 h => ?_)
    refine V_aload_n X (i := 0) 1 dX12_tellLaw_53 rfl rfl ?_
    refine G_12_76 X hZ dX12_tellLaw_54 ?_
    refine V_aload_n X (i := 0) 1 dX12_tellLaw_57 rfl rfl ?_
    refine G_12_227 X hZ dX12_tellLaw_58 ?_
    refine V_iconst X (v := (1 : Int32)) dX12_tellLaw_61 (by decide) ?_
    obtain ⟨g4, h⟩ := h
    obtain ⟨w5, ew5⟩ : ∃ y : Mem, y = st w2 170 (ix (w2 150 33)) (vp_nar .boolean (1 : Int32)) := ⟨_, rfl⟩
    have h := h w5 ew5
    refine V_zast_m X (rfl : SLq 170 = 260) (hzk hZ (by decide)) (rfl : SK 170 = 16) g4 dX12_tellLaw_62 ew5 ?_
    refine V_aload_n X (i := 0) 1 dX12_tellLaw_63 rfl rfl ?_
    refine G_12_80 X hZ dX12_tellLaw_64 ?_
    refine V_aload_n X (i := 0) 1 dX12_tellLaw_67 rfl rfl ?_
    refine G_12_227 X hZ dX12_tellLaw_68 ?_
    refine V_aload_n X (i := 0) 1 dX12_tellLaw_71 rfl rfl ?_
    refine G_12_230 X hZ dX12_tellLaw_72 ?_
    obtain ⟨g6, h⟩ := h
    obtain ⟨w7, ew7⟩ : ∃ y : Mem, y = st w5 171 (ix (w5 150 33)) (w5 150 39) := ⟨_, rfl⟩
    have h := h w7 ew7
    refine V_iast_m X (rfl : SLq 171 = 260) (hzk hZ (by decide)) (rfl : SK 171 = 14) g6 dX12_tellLaw_75 ew7 ?_
    refine V_aload_n X (i := 0) 1 dX12_tellLaw_76 rfl rfl ?_
    refine K_12_expression X (Or.inl q_1518) hZ h ⟨Nat.le_of_ble_eq_true rfl, Nat.le_of_ble_eq_true rfl⟩ ⟨Nat.zero_le _, Nat.zero_le _⟩ (st1 := []) (Nat.le_of_ble_eq_true rfl) dX12_tellLaw_77 (fun w8 v9 h => ?_)
    refine V_aload_n X (i := 0) 1 dX12_tellLaw_80 rfl rfl ?_
    refine V_bipush X (v := (13 : Int32)) dX12_tellLaw_81 (by decide) ?_
    refine K_12_must X (Or.inl q_1498) hZ h ⟨Nat.le_of_ble_eq_true rfl, Nat.le_of_ble_eq_true rfl⟩ ⟨Nat.zero_le _, Nat.zero_le _⟩ (st1 := []) (Nat.le_of_ble_eq_true rfl) dX12_tellLaw_83 (fun w10 v11 h => ?_)
    refine V_aload_n X (i := 0) 1 dX12_tellLaw_86 rfl rfl ?_
    refine G_12_83 X hZ dX12_tellLaw_87 ?_
    refine V_aload_n X (i := 0) 1 dX12_tellLaw_90 rfl rfl ?_
    refine G_12_227 X hZ dX12_tellLaw_91 ?_
    refine V_aload_n X (i := 0) 1 dX12_tellLaw_94 rfl rfl ?_
    refine G_12_230 X hZ dX12_tellLaw_95 ?_
    obtain ⟨g12, h⟩ := h
    obtain ⟨w13, ew13⟩ : ∃ y : Mem, y = st w10 172 (ix (w10 150 33)) (w10 150 39) := ⟨_, rfl⟩
    have h := h w13 ew13
    refine V_iast_m X (rfl : SLq 172 = 260) (hzk hZ (by decide)) (rfl : SK 172 = 14) g12 dX12_tellLaw_98 ew13 ?_
    refine V_aload_n X (i := 0) 1 dX12_tellLaw_99 rfl rfl ?_
    refine G_12_188 X hZ dX12_tellLaw_100 ?_
    obtain ⟨ht, hf⟩ := h
    refine V_if_ne X (tgt := 110) dX12_tellLaw_103 (by decide) (fun c => ?_) (fun c => ?_)
    · have h := ht c
      refine V_sub X (ls1 := [(0, .ref (ad 150)), (1, .int l1), (2, .int l2), (3, .int x1)]) [1, 2, 3, 0] rfl ?_
      exact v_12_tellLaw_b110 X hr hZ HL12 _ _ _ _ _ h
    · have h := hf c
      refine V_aload_n X (i := 0) 1 dX12_tellLaw_106 rfl rfl ?_
      refine K_12_expression X (Or.inl q_1518) hZ h ⟨Nat.le_of_ble_eq_true rfl, Nat.le_of_ble_eq_true rfl⟩ ⟨Nat.zero_le _, Nat.zero_le _⟩ (st1 := []) (Nat.le_of_ble_eq_true rfl) dX12_tellLaw_107 (fun w14 v15 h => ?_)
      refine V_sub X (ls1 := [(0, .ref (ad 150)), (1, .int l1), (2, .int l2), (3, .int x1)]) [1, 2, 3, 0] rfl ?_
      exact v_12_tellLaw_b110 X hr hZ HL12 _ _ _ _ _ h
  · have h := hf c
    exact V_vret_m X hr dX12_tellLaw_45 h
set_option maxRecDepth 20000 in
theorem v_12_tellLaw_b12 (X : CXq p s m args meth c cX12_tellLaw 4 yX12_tellLaw.cls ad cy D (AW ad) s.heap) (hr : meth.sig.returnType = none) (hZ : ad 1000 = 189) {Q : Mem → MemL → Prop} : ∀ (n : Nat) (l1 : Int32) (l2 : Int32) (l3 : Int32) (w : Mem) (wl : MemL), wp_12_tellLaw_b12 Q n l1 l2 l3 w wl → V p l e (RM 5) s m args below meth c 4 ad cy D (AW ad) s.heap 0 0 (MQ below (va_Qv (fun (u : Mem × MemL) => Q u.1 u.2) (BM ad cy D wc) (AW ad)) args s 0 0 (AW ad)) wc w wl 12 [(0, .ref (ad 150)), (1, .int l1), (2, .int l2), (3, .int l3)] [] := by
  intro n
  induction n with
  | zero =>
    intro l1 l2 l3 w wl h
    exact h.elim
  | succ n ih =>
    intro l1 l2 l3 w wl h
    unfold wp_12_tellLaw_b12 at h
    refine V_aload_n X (i := 0) 0 dX12_tellLaw_12 rfl rfl ?_
    refine G_12_188 X hZ dX12_tellLaw_13 ?_
    obtain ⟨ht, hf⟩ := h
    refine V_if_ne X (tgt := 129) dX12_tellLaw_16 (by decide) (fun c => ?_) (fun c => ?_)
    · have h := ht c
      refine V_sub X (ls1 := [(0, .ref (ad 150)), (1, .int l1), (2, .int l2)]) [0, 1, 2] rfl ?_
      exact v_12_tellLaw_b129 X hr hZ _ _ _ _ h
    · have h := hf c
      refine V_aload_n X (i := 0) 0 dX12_tellLaw_19 rfl rfl ?_
      refine V_bipush X (v := (35 : Int32)) dX12_tellLaw_20 (by decide) ?_
      refine K_12_is X (Or.inl q_1470) hZ h ⟨Nat.le_of_ble_eq_true rfl, Nat.le_of_ble_eq_true rfl⟩ ⟨Nat.zero_le _, Nat.zero_le _⟩ (st1 := []) (Nat.le_of_ble_eq_true rfl) dX12_tellLaw_22 (fun r2 w1 v3 h => ?_)
      obtain ⟨ht, hf⟩ := h
      refine V_if_eq X (tgt := 129) dX12_tellLaw_25 (by decide) (fun c => ?_) (fun c => ?_)
      · have h := ht c
        refine V_sub X (ls1 := [(0, .ref (ad 150)), (1, .int l1), (2, .int l2)]) [0, 1, 2] rfl ?_
        exact v_12_tellLaw_b129 X hr hZ _ _ _ _ h
      · have h := hf c
        refine V_iload_n X (i := 3) 3 dX12_tellLaw_28 rfl rfl ?_
        refine V_iconst X (v := (4 : Int32)) dX12_tellLaw_29 (by decide) ?_
        obtain ⟨ht, hf⟩ := h
        refine V_icmp_ne X (tgt := 38) dX12_tellLaw_30 (by decide) (fun c => ?_) (fun c => ?_)
        · have h := ht c
          refine V_sub X (ls1 := [(0, .ref (ad 150)), (1, .int l1), (2, .int l2), (3, .int l3)]) [0, 1, 2, 3] rfl ?_
          exact v_12_tellLaw_b38 X hr hZ ih _ _ _ _ _ h
        · have h := hf c
          refine V_aload_n X (i := 0) 0 dX12_tellLaw_33 rfl rfl ?_
          refine V_iconst X (v := (2 : Int32)) dX12_tellLaw_34 (by decide) ?_
          refine K_12_fail X (Or.inl q_1482) hZ h ⟨Nat.le_of_ble_eq_true rfl, Nat.le_of_ble_eq_true rfl⟩ ⟨Nat.zero_le _, Nat.zero_le _⟩ (st1 := []) (Nat.le_of_ble_eq_true rfl) dX12_tellLaw_35 (fun w4 v5 h => ?_)
          refine V_sub X (ls1 := [(0, .ref (ad 150)), (1, .int l1), (2, .int l2), (3, .int l3)]) [0, 1, 2, 3] rfl ?_
          exact v_12_tellLaw_b38 X hr hZ ih _ _ _ _ _ h
set_option maxRecDepth 20000 in
theorem v_12_tellLaw {a1 : Int32} (X : CXq p s m args meth c cX12_tellLaw 4 yX12_tellLaw.cls ad cy D (AW ad) s.heap) (hr : meth.sig.returnType = none) (hZ : ad 1000 = 189) {w : Mem} {wl : MemL} {Q : Mem → MemL → Prop} (h : wp_12_tellLaw a1 w wl Q) : V p l e (RM 5) s m args below meth c 4 ad cy D (AW ad) s.heap 0 0 (MQ below (va_Qv (fun (u : Mem × MemL) => Q u.1 u.2) (BM ad cy D wc) (AW ad)) args s 0 0 (AW ad)) wc w wl 0 [(0, .ref (ad 150)), (1, .int a1)] [] := by
  unfold wp_12_tellLaw at h
  refine V_aload_n X (i := 0) 0 dX12_tellLaw_0 rfl rfl ?_
  refine V_iconst X (v := (5 : Int32)) dX12_tellLaw_1 (by decide) ?_
  refine K_12_must X (Or.inl q_1498) hZ h ⟨Nat.le_of_ble_eq_true rfl, Nat.le_of_ble_eq_true rfl⟩ ⟨Nat.zero_le _, Nat.zero_le _⟩ (st1 := []) (Nat.le_of_ble_eq_true rfl) dX12_tellLaw_2 (fun w1 v2 h => ?_)
  refine V_aload_n X (i := 0) 0 dX12_tellLaw_5 rfl rfl ?_
  refine G_12_227 X hZ dX12_tellLaw_6 ?_
  obtain ⟨x3, ex3⟩ : ∃ y : Int32, y = (w1 150 33) := ⟨_, rfl⟩
  have h := h x3 ex3
  refine V_istore_n X dX12_tellLaw_9 rfl (by decide) ex3 (ls1 := [(2, .int x3), (0, .ref (ad 150)), (1, .int a1)]) rfl ?_
  refine V_iconst X (v := (0 : Int32)) dX12_tellLaw_10 (by decide) ?_
  refine V_istore_n X dX12_tellLaw_11 rfl (by decide) rfl (ls1 := [(3, .int (0 : Int32)), (2, .int x3), (0, .ref (ad 150)), (1, .int a1)]) rfl ?_
  refine V_sub X (ls1 := [(0, .ref (ad 150)), (1, .int a1), (2, .int x3), (3, .int (0 : Int32))]) [2, 3, 1, 0] rfl ?_
  obtain ⟨nn, h⟩ := h
  exact v_12_tellLaw_b12 X hr hZ nn _ _ _ _ _ h
theorem c_12_tellLaw {a1 : Int32} (hinj : INJ ad) (hZ : ad 1000 = 189) {w : Mem} {wl : MemL} {Q : Mem → MemL → Prop} (h : wp_12_tellLaw a1 w wl Q) : Met l yX12_tellLaw (TBq yX12_tellLaw cX12_tellLaw 4 none) (RM 5) (va_Pc [.ref (ad 150), .int a1] (PB ad cy D (cmb wc w) wl)) (va_Qv (fun (u : Mem × MemL) => Q u.1 u.2) (BM ad cy D wc) (AW ad)) 0 0 (AW ad) := M_enter (by decide) (Nat.le_of_ble_eq_true rfl) hinj (fun p e s m args below meth c X hr => v_12_tellLaw X hr hZ h)
theorem mf_12_tellLaw : MFV yX12_tellLaw cX12_tellLaw 4 none yX12_tellLaw.cls 1 := ⟨q_1517, q_1516, qs_58, q_14, by decide⟩
theorem K_12_tellLaw {own : String} {idx : Nat} {a1 : Int32} (X : CXq p s m args meth c cc nL own ad cy D A H0) (hL : LK own idx yX12_tellLaw) (hZ : ad 1000 = 189) {w : Mem} {wl : MemL} {Q : Mem → MemL → Prop} (h : wp_12_tellLaw a1 w wl Q) (hR : (RM 5).frames + 1 ≤ R.frames ∧ 8 + (4 + 11) + (RM 5).locals ≤ R.locals) (hce : ce ≤ R.cells ∧ sl ≤ R.slots) (hcat : (st1.map fun v => v.category).sum ≤ 8) (hd : decode cc pc = .ok (.invokevirtual idx, 3)) (kk : ∀ (u : Mem) (v : MemL), Q u v → V p l e R s m args below meth c nL ad cy D A H0 ce sl Qs wc u v (pc + 3) ls st1) : V p l e R s m args below meth c nL ad cy D A H0 ce sl Qs wc w wl pc ls (.int a1 :: .ref (ad 150) :: st1) := V_callVV_m X mf_12_tellLaw hL (rfl : vwCl[12]? = some (RX12, TX12, 72)) (by decide) (rfl : SK 150 = 12) (hzk hZ (by decide)).2 (c_12_tellLaw X.2.2.2.2.2.2.2.1 hZ h) (As := [.int a1]) rfl ⟨rfl, rfl⟩ hR hce st1 rfl hcat hd kk
set_option maxRecDepth 20000 in
theorem v_12_tellOne_b406 (X : CXq p s m args meth c cX12_tellOne 2 yX12_tellOne.cls ad cy D (AW ad) s.heap) (hr : meth.sig.returnType = none) (hZ : ad 1000 = 189) {Q : Mem → MemL → Prop} : ∀ (l1 : Int32) (w : Mem) (wl : MemL), wp_12_tellOne_b406 Q l1 w wl → V p l e (RM 6) s m args below meth c 2 ad cy D (AW ad) s.heap 0 0 (MQ below (va_Qv (fun (u : Mem × MemL) => Q u.1 u.2) (BM ad cy D wc) (AW ad)) args s 0 0 (AW ad)) wc w wl 406 [(0, .ref (ad 150)), (1, .int l1)] [] := by
  intro l1 w wl h
  unfold wp_12_tellOne_b406 at h
  refine V_aload_n X (i := 0) 0 dX12_tellOne_406 rfl rfl ?_
  refine G_12_188 X hZ dX12_tellOne_407 ?_
  obtain ⟨ht, hf⟩ := h
  refine V_if_le X (tgt := 414) dX12_tellOne_410 (by decide) (fun c => ?_) (fun c => ?_)
  · have h := ht c
    refine V_aload_n X (i := 0) 0 dX12_tellOne_414 rfl rfl ?_
    refine K_12_goesOn X (Or.inl q_1478) hZ h ⟨Nat.le_of_ble_eq_true rfl, Nat.le_of_ble_eq_true rfl⟩ ⟨Nat.zero_le _, Nat.zero_le _⟩ (st1 := []) (Nat.le_of_ble_eq_true rfl) dX12_tellOne_415 (fun w1 v2 h => ?_)
    refine V_aload_n X (i := 0) 0 dX12_tellOne_418 rfl rfl ?_
    refine V_iload_n X (i := 1) 1 dX12_tellOne_419 rfl rfl ?_
    refine K_12_tellLaw X (Or.inl q_1514) hZ h ⟨Nat.le_of_ble_eq_true rfl, Nat.le_of_ble_eq_true rfl⟩ ⟨Nat.zero_le _, Nat.zero_le _⟩ (st1 := []) (Nat.le_of_ble_eq_true rfl) dX12_tellOne_420 (fun w3 v4 h => ?_)
    exact V_vret_m X hr dX12_tellOne_423 h
  · have h := hf c
    exact V_vret_m X hr dX12_tellOne_413 h
set_option maxRecDepth 20000 in
theorem v_12_tellOne_b401 (X : CXq p s m args meth c cX12_tellOne 2 yX12_tellOne.cls ad cy D (AW ad) s.heap) (hr : meth.sig.returnType = none) (hZ : ad 1000 = 189) {Q : Mem → MemL → Prop} : ∀ (l1 : Int32) (w : Mem) (wl : MemL), wp_12_tellOne_b401 Q l1 w wl → V p l e (RM 6) s m args below meth c 2 ad cy D (AW ad) s.heap 0 0 (MQ below (va_Qv (fun (u : Mem × MemL) => Q u.1 u.2) (BM ad cy D wc) (AW ad)) args s 0 0 (AW ad)) wc w wl 401 [(0, .ref (ad 150)), (1, .int l1)] [] := by
  intro l1 w wl h
  unfold wp_12_tellOne_b401 at h
  refine V_aload_n X (i := 0) 0 dX12_tellOne_401 rfl rfl ?_
  refine V_iconst X (v := (1 : Int32)) dX12_tellOne_402 (by decide) ?_
  refine K_12_fail X (Or.inl q_1482) hZ h ⟨Nat.le_of_ble_eq_true rfl, Nat.le_of_ble_eq_true rfl⟩ ⟨Nat.zero_le _, Nat.zero_le _⟩ (st1 := []) (Nat.le_of_ble_eq_true rfl) dX12_tellOne_403 (fun w1 v2 h => ?_)
  refine V_sub X (ls1 := [(0, .ref (ad 150)), (1, .int l1)]) [0, 1] rfl ?_
  exact v_12_tellOne_b406 X hr hZ _ _ _ h
set_option maxRecDepth 20000 in
theorem v_12_tellOne_b210 (X : CXq p s m args meth c cX12_tellOne 2 yX12_tellOne.cls ad cy D (AW ad) s.heap) (hr : meth.sig.returnType = none) (hZ : ad 1000 = 189) {Q : Mem → MemL → Prop} : ∀ (w : Mem) (wl : MemL), wp_12_tellOne_b210 Q w wl → V p l e (RM 6) s m args below meth c 2 ad cy D (AW ad) s.heap 0 0 (MQ below (va_Qv (fun (u : Mem × MemL) => Q u.1 u.2) (BM ad cy D wc) (AW ad)) args s 0 0 (AW ad)) wc w wl 210 [(0, .ref (ad 150))] [] := by
  intro w wl h
  unfold wp_12_tellOne_b210 at h
  refine V_aload_n X (i := 0) 0 dX12_tellOne_210 rfl rfl ?_
  refine G_12_188 X hZ dX12_tellOne_211 ?_
  obtain ⟨ht, hf⟩ := h
  refine V_if_ne X (tgt := 423) dX12_tellOne_214 (by decide) (fun c => ?_) (fun c => ?_)
  · have h := ht c
    exact V_vret_m X hr dX12_tellOne_423 h
  · have h := hf c
    refine V_aload_n X (i := 0) 0 dX12_tellOne_217 rfl rfl ?_
    refine K_12_tellJudge X (Or.inl q_1510) hZ h ⟨Nat.le_of_ble_eq_true rfl, Nat.le_of_ble_eq_true rfl⟩ ⟨Nat.zero_le _, Nat.zero_le _⟩ (st1 := []) (Nat.le_of_ble_eq_true rfl) dX12_tellOne_218 (fun w1 v2 h => ?_)
    refine V_goto X (tgt := 423) dX12_tellOne_221 (by decide) ?_
    exact V_vret_m X hr dX12_tellOne_423 h
set_option maxRecDepth 20000 in
theorem v_12_tellOne_b177 (X : CXq p s m args meth c cX12_tellOne 2 yX12_tellOne.cls ad cy D (AW ad) s.heap) (hr : meth.sig.returnType = none) (hZ : ad 1000 = 189) {Q : Mem → MemL → Prop} : ∀ (w : Mem) (wl : MemL), wp_12_tellOne_b177 Q w wl → V p l e (RM 6) s m args below meth c 2 ad cy D (AW ad) s.heap 0 0 (MQ below (va_Qv (fun (u : Mem × MemL) => Q u.1 u.2) (BM ad cy D wc) (AW ad)) args s 0 0 (AW ad)) wc w wl 177 [(0, .ref (ad 150))] [] := by
  intro w wl h
  unfold wp_12_tellOne_b177 at h
  refine V_aload_n X (i := 0) 0 dX12_tellOne_177 rfl rfl ?_
  refine G_12_188 X hZ dX12_tellOne_178 ?_
  obtain ⟨ht, hf⟩ := h
  refine V_if_ne X (tgt := 423) dX12_tellOne_181 (by decide) (fun c => ?_) (fun c => ?_)
  · have h := ht c
    exact V_vret_m X hr dX12_tellOne_423 h
  · have h := hf c
    refine V_aload_n X (i := 0) 0 dX12_tellOne_184 rfl rfl ?_
    refine K_12_tellMan X (Or.inl q_1502) hZ h ⟨Nat.le_of_ble_eq_true rfl, Nat.le_of_ble_eq_true rfl⟩ ⟨Nat.zero_le _, Nat.zero_le _⟩ (st1 := []) (Nat.le_of_ble_eq_true rfl) dX12_tellOne_185 (fun w1 v2 h => ?_)
    refine V_goto X (tgt := 423) dX12_tellOne_188 (by decide) ?_
    exact V_vret_m X hr dX12_tellOne_423 h
set_option maxRecDepth 20000 in
theorem v_12_tellOne_b130 (X : CXq p s m args meth c cX12_tellOne 2 yX12_tellOne.cls ad cy D (AW ad) s.heap) (hr : meth.sig.returnType = none) (hZ : ad 1000 = 189) {Q : Mem → MemL → Prop} : ∀ (n : Nat) (l1 : Int32) (w : Mem) (wl : MemL), wp_12_tellOne_b130 Q n l1 w wl → V p l e (RM 6) s m args below meth c 2 ad cy D (AW ad) s.heap 0 0 (MQ below (va_Qv (fun (u : Mem × MemL) => Q u.1 u.2) (BM ad cy D wc) (AW ad)) args s 0 0 (AW ad)) wc w wl 130 [(0, .ref (ad 150)), (1, .int l1)] [] := by
  intro n
  induction n with
  | zero =>
    intro l1 w wl h
    exact h.elim
  | succ n ih =>
    intro l1 w wl h
    unfold wp_12_tellOne_b130 at h
    refine V_iload_n X (i := 1) 1 dX12_tellOne_130 rfl rfl ?_
    refine V_bipush X (v := (8 : Int32)) dX12_tellOne_131 (by decide) ?_
    obtain ⟨ht, hf⟩ := h
    refine V_icmp_ge X (tgt := 150) dX12_tellOne_133 (by decide) (fun c => ?_) (fun c => ?_)
    · have h := ht c
      refine V_aload_n X (i := 0) 0 dX12_tellOne_150 rfl rfl ?_
      refine V_iconst X (v := (4 : Int32)) dX12_tellOne_151 (by decide) ?_
      refine K_12_must X (Or.inl q_1498) hZ h ⟨Nat.le_of_ble_eq_true rfl, Nat.le_of_ble_eq_true rfl⟩ ⟨Nat.zero_le _, Nat.zero_le _⟩ (st1 := []) (Nat.le_of_ble_eq_true rfl) dX12_tellOne_152 (fun w1 v2 h => ?_)
      refine V_goto X (tgt := 423) dX12_tellOne_155 (by decide) ?_
      exact V_vret_m X hr dX12_tellOne_423 h
    · have h := hf c
      refine V_aload_n X (i := 0) 0 dX12_tellOne_136 rfl rfl ?_
      refine V_iload_n X (i := 1) 1 dX12_tellOne_137 rfl rfl ?_
      refine V_iconst X (v := (0 : Int32)) dX12_tellOne_138 (by decide) ?_
      refine V_bipush X (v := (9 : Int32)) dX12_tellOne_139 (by decide) ?_
      refine K_12_tellNumber X (Or.inl q_1486) hZ h ⟨Nat.le_of_ble_eq_true rfl, Nat.le_of_ble_eq_true rfl⟩ ⟨Nat.zero_le _, Nat.zero_le _⟩ (st1 := []) (Nat.le_of_ble_eq_true rfl) dX12_tellOne_141 (fun w3 v4 h => ?_)
      obtain ⟨x5, ex5⟩ : ∃ y : Int32, y = l1 + (1 : Int32) := ⟨_, rfl⟩
      have h := h x5 ex5
      refine V_iinc X 1 dX12_tellOne_144 rfl (by decide) (by rw [ex5]; rfl) (ls1 := [(1, .int x5), (0, .ref (ad 150))]) rfl ?_
      refine V_goto X (tgt := 130) dX12_tellOne_147 (by decide) ?_
      refine V_sub X (ls1 := [(0, .ref (ad 150)), (1, .int x5)]) [1, 0] rfl ?_
      exact ih _ _ _ h
set_option maxRecDepth 20000 in
theorem v_12_tellOne (X : CXq p s m args meth c cX12_tellOne 2 yX12_tellOne.cls ad cy D (AW ad) s.heap) (hr : meth.sig.returnType = none) (hZ : ad 1000 = 189) {w : Mem} {wl : MemL} {Q : Mem → MemL → Prop} (h : wp_12_tellOne w wl Q) : V p l e (RM 6) s m args below meth c 2 ad cy D (AW ad) s.heap 0 0 (MQ below (va_Qv (fun (u : Mem × MemL) => Q u.1 u.2) (BM ad cy D wc) (AW ad)) args s 0 0 (AW ad)) wc w wl 0 [(0, .ref (ad 150))] [] := by
  unfold wp_12_tellOne at h
  refine V_aload_n X (i := 0) 0 dX12_tellOne_0 rfl rfl ?_
  refine G_12_20 X hZ dX12_tellOne_1 ?_
  refine V_aload_n X (i := 0) 0 dX12_tellOne_4 rfl rfl ?_
  refine G_12_191 X hZ dX12_tellOne_5 ?_
  obtain ⟨g1, h⟩ := h
  refine V_iald_m X (rfl : SLq 153 = 403) (hzk hZ (by decide)) (rfl : SK 153 = 14) g1 dX12_tellOne_8 ?_
  obtain ⟨ht, h⟩ := h
  by_cases c0 : (w 153 (ix (w 150 11))) = (20 : Int32)
  · have h := ht c0
    refine V_tableIn X (tgt := 84) dX12_tellOne_9 (by rw [c0]; decide) (by rw [c0]; decide) (off := 75) (by rw [c0]; decide) (by decide) ?_
    refine V_aload_n X (i := 0) 0 dX12_tellOne_84 rfl rfl ?_
    refine K_12_goesOn X (Or.inl q_1478) hZ h ⟨Nat.le_of_ble_eq_true rfl, Nat.le_of_ble_eq_true rfl⟩ ⟨Nat.zero_le _, Nat.zero_le _⟩ (st1 := []) (Nat.le_of_ble_eq_true rfl) dX12_tellOne_85 (fun w2 v3 h => ?_)
    refine V_aload_n X (i := 0) 0 dX12_tellOne_88 rfl rfl ?_
    refine V_iconst X (v := (0 : Int32)) dX12_tellOne_89 (by decide) ?_
    refine V_bipush X (v := (100 : Int32)) dX12_tellOne_90 (by decide) ?_
    refine V_sipush X (v := (2500 : Int32)) dX12_tellOne_92 (by decide) ?_
    refine K_12_tellNumber X (Or.inl q_1486) hZ h ⟨Nat.le_of_ble_eq_true rfl, Nat.le_of_ble_eq_true rfl⟩ ⟨Nat.zero_le _, Nat.zero_le _⟩ (st1 := []) (Nat.le_of_ble_eq_true rfl) dX12_tellOne_95 (fun w4 v5 h => ?_)
    refine V_aload_n X (i := 0) 0 dX12_tellOne_98 rfl rfl ?_
    refine V_iconst X (v := (1 : Int32)) dX12_tellOne_99 (by decide) ?_
    refine V_bipush X (v := (100 : Int32)) dX12_tellOne_100 (by decide) ?_
    refine V_sipush X (v := (2500 : Int32)) dX12_tellOne_102 (by decide) ?_
    refine K_12_tellNumber X (Or.inl q_1486) hZ h ⟨Nat.le_of_ble_eq_true rfl, Nat.le_of_ble_eq_true rfl⟩ ⟨Nat.zero_le _, Nat.zero_le _⟩ (st1 := []) (Nat.le_of_ble_eq_true rfl) dX12_tellOne_105 (fun w6 v7 h => ?_)
    refine V_aload_n X (i := 0) 0 dX12_tellOne_108 rfl rfl ?_
    refine V_iconst X (v := (2 : Int32)) dX12_tellOne_109 (by decide) ?_
    refine V_iconst X (v := (0 : Int32)) dX12_tellOne_110 (by decide) ?_
    refine V_bipush X (v := (99 : Int32)) dX12_tellOne_111 (by decide) ?_
    refine K_12_tellNumber X (Or.inl q_1486) hZ h ⟨Nat.le_of_ble_eq_true rfl, Nat.le_of_ble_eq_true rfl⟩ ⟨Nat.zero_le _, Nat.zero_le _⟩ (st1 := []) (Nat.le_of_ble_eq_true rfl) dX12_tellOne_113 (fun w8 v9 h => ?_)
    refine V_aload_n X (i := 0) 0 dX12_tellOne_116 rfl rfl ?_
    refine V_iconst X (v := (4 : Int32)) dX12_tellOne_117 (by decide) ?_
    refine K_12_must X (Or.inl q_1498) hZ h ⟨Nat.le_of_ble_eq_true rfl, Nat.le_of_ble_eq_true rfl⟩ ⟨Nat.zero_le _, Nat.zero_le _⟩ (st1 := []) (Nat.le_of_ble_eq_true rfl) dX12_tellOne_118 (fun w10 v11 h => ?_)
    refine V_goto X (tgt := 423) dX12_tellOne_121 (by decide) ?_
    exact V_vret_m X hr dX12_tellOne_423 h
  have h := h c0
  obtain ⟨ht, h⟩ := h
  by_cases c6 : (w 153 (ix (w 150 11))) = (26 : Int32)
  · have h := ht c6
    refine V_tableIn X (tgt := 124) dX12_tellOne_9 (by rw [c6]; decide) (by rw [c6]; decide) (off := 115) (by rw [c6]; decide) (by decide) ?_
    refine V_aload_n X (i := 0) 0 dX12_tellOne_124 rfl rfl ?_
    refine K_12_goesOn X (Or.inl q_1478) hZ h ⟨Nat.le_of_ble_eq_true rfl, Nat.le_of_ble_eq_true rfl⟩ ⟨Nat.zero_le _, Nat.zero_le _⟩ (st1 := []) (Nat.le_of_ble_eq_true rfl) dX12_tellOne_125 (fun w12 v13 h => ?_)
    refine V_iconst X (v := (3 : Int32)) dX12_tellOne_128 (by decide) ?_
    refine V_istore_n X dX12_tellOne_129 rfl (by decide) rfl (ls1 := [(1, .int (3 : Int32)), (0, .ref (ad 150))]) rfl ?_
    refine V_sub X (ls1 := [(0, .ref (ad 150)), (1, .int (3 : Int32))]) [1, 0] rfl ?_
    obtain ⟨nn, h⟩ := h
    exact v_12_tellOne_b130 X hr hZ nn _ _ _ h
  have h := h c6
  obtain ⟨ht, h⟩ := h
  by_cases c7 : (w 153 (ix (w 150 11))) = (27 : Int32)
  · have h := ht c7
    refine V_tableIn X (tgt := 158) dX12_tellOne_9 (by rw [c7]; decide) (by rw [c7]; decide) (off := 149) (by rw [c7]; decide) (by decide) ?_
    refine V_aload_n X (i := 0) 0 dX12_tellOne_158 rfl rfl ?_
    refine G_12_46 X hZ dX12_tellOne_159 ?_
    refine V_aload_n X (i := 0) 0 dX12_tellOne_162 rfl rfl ?_
    refine G_12_221 X hZ dX12_tellOne_163 ?_
    obtain ⟨g14, h⟩ := h
    refine V_iald_m X (rfl : SLq 160 = 2) (hzk hZ (by decide)) (rfl : SK 160 = 14) g14 dX12_tellOne_166 ?_
    refine V_bipush X (v := (8 : Int32)) dX12_tellOne_167 (by decide) ?_
    obtain ⟨ht, hf⟩ := h
    refine V_icmp_ne X (tgt := 177) dX12_tellOne_169 (by decide) (fun c => ?_) (fun c => ?_)
    · have h := ht c
      refine V_sub X (ls1 := [(0, .ref (ad 150))]) [0] rfl ?_
      exact v_12_tellOne_b177 X hr hZ _ _ h
    · have h := hf c
      refine V_aload_n X (i := 0) 0 dX12_tellOne_172 rfl rfl ?_
      refine V_iconst X (v := (2 : Int32)) dX12_tellOne_173 (by decide) ?_
      refine K_12_fail X (Or.inl q_1482) hZ h ⟨Nat.le_of_ble_eq_true rfl, Nat.le_of_ble_eq_true rfl⟩ ⟨Nat.zero_le _, Nat.zero_le _⟩ (st1 := []) (Nat.le_of_ble_eq_true rfl) dX12_tellOne_174 (fun w15 v16 h => ?_)
      refine V_sub X (ls1 := [(0, .ref (ad 150))]) [0] rfl ?_
      exact v_12_tellOne_b177 X hr hZ _ _ h
  have h := h c7
  obtain ⟨ht, h⟩ := h
  by_cases c8 : (w 153 (ix (w 150 11))) = (28 : Int32)
  · have h := ht c8
    refine V_tableIn X (tgt := 191) dX12_tellOne_9 (by rw [c8]; decide) (by rw [c8]; decide) (off := 182) (by rw [c8]; decide) (by decide) ?_
    refine V_aload_n X (i := 0) 0 dX12_tellOne_191 rfl rfl ?_
    refine G_12_61 X hZ dX12_tellOne_192 ?_
    refine V_aload_n X (i := 0) 0 dX12_tellOne_195 rfl rfl ?_
    refine G_12_221 X hZ dX12_tellOne_196 ?_
    obtain ⟨g17, h⟩ := h
    refine V_iald_m X (rfl : SLq 165 = 2) (hzk hZ (by decide)) (rfl : SK 165 = 14) g17 dX12_tellOne_199 ?_
    refine V_bipush X (v := (7 : Int32)) dX12_tellOne_200 (by decide) ?_
    obtain ⟨ht, hf⟩ := h
    refine V_icmp_ne X (tgt := 210) dX12_tellOne_202 (by decide) (fun c => ?_) (fun c => ?_)
    · have h := ht c
      refine V_sub X (ls1 := [(0, .ref (ad 150))]) [0] rfl ?_
      exact v_12_tellOne_b210 X hr hZ _ _ h
    · have h := hf c
      refine V_aload_n X (i := 0) 0 dX12_tellOne_205 rfl rfl ?_
      refine V_iconst X (v := (2 : Int32)) dX12_tellOne_206 (by decide) ?_
      refine K_12_fail X (Or.inl q_1482) hZ h ⟨Nat.le_of_ble_eq_true rfl, Nat.le_of_ble_eq_true rfl⟩ ⟨Nat.zero_le _, Nat.zero_le _⟩ (st1 := []) (Nat.le_of_ble_eq_true rfl) dX12_tellOne_207 (fun w18 v19 h => ?_)
      refine V_sub X (ls1 := [(0, .ref (ad 150))]) [0] rfl ?_
      exact v_12_tellOne_b210 X hr hZ _ _ h
  have h := h c8
  obtain ⟨ht, h⟩ := h
  by_cases c9 : (w 153 (ix (w 150 11))) = (29 : Int32)
  · have h := ht c9
    refine V_tableIn X (tgt := 224) dX12_tellOne_9 (by rw [c9]; decide) (by rw [c9]; decide) (off := 215) (by rw [c9]; decide) (by decide) ?_
    refine V_aload_n X (i := 0) 0 dX12_tellOne_224 rfl rfl ?_
    refine K_12_goesOn X (Or.inl q_1478) hZ h ⟨Nat.le_of_ble_eq_true rfl, Nat.le_of_ble_eq_true rfl⟩ ⟨Nat.zero_le _, Nat.zero_le _⟩ (st1 := []) (Nat.le_of_ble_eq_true rfl) dX12_tellOne_225 (fun w20 v21 h => ?_)
    refine V_aload_n X (i := 0) 0 dX12_tellOne_228 rfl rfl ?_
    refine V_bipush X (v := (8 : Int32)) dX12_tellOne_229 (by decide) ?_
    refine V_iconst X (v := (0 : Int32)) dX12_tellOne_231 (by decide) ?_
    refine V_bipush X (v := (99 : Int32)) dX12_tellOne_232 (by decide) ?_
    refine K_12_tellNumber X (Or.inl q_1486) hZ h ⟨Nat.le_of_ble_eq_true rfl, Nat.le_of_ble_eq_true rfl⟩ ⟨Nat.zero_le _, Nat.zero_le _⟩ (st1 := []) (Nat.le_of_ble_eq_true rfl) dX12_tellOne_234 (fun w22 v23 h => ?_)
    refine V_aload_n X (i := 0) 0 dX12_tellOne_237 rfl rfl ?_
    refine V_iconst X (v := (4 : Int32)) dX12_tellOne_238 (by decide) ?_
    refine K_12_must X (Or.inl q_1498) hZ h ⟨Nat.le_of_ble_eq_true rfl, Nat.le_of_ble_eq_true rfl⟩ ⟨Nat.zero_le _, Nat.zero_le _⟩ (st1 := []) (Nat.le_of_ble_eq_true rfl) dX12_tellOne_239 (fun w24 v25 h => ?_)
    refine V_goto X (tgt := 423) dX12_tellOne_242 (by decide) ?_
    exact V_vret_m X hr dX12_tellOne_423 h
  have h := h c9
  obtain ⟨ht, h⟩ := h
  by_cases c10 : (w 153 (ix (w 150 11))) = (30 : Int32)
  · have h := ht c10
    refine V_tableIn X (tgt := 245) dX12_tellOne_9 (by rw [c10]; decide) (by rw [c10]; decide) (off := 236) (by rw [c10]; decide) (by decide) ?_
    refine V_aload_n X (i := 0) 0 dX12_tellOne_245 rfl rfl ?_
    refine K_12_goesOn X (Or.inl q_1478) hZ h ⟨Nat.le_of_ble_eq_true rfl, Nat.le_of_ble_eq_true rfl⟩ ⟨Nat.zero_le _, Nat.zero_le _⟩ (st1 := []) (Nat.le_of_ble_eq_true rfl) dX12_tellOne_246 (fun w26 v27 h => ?_)
    refine V_aload_n X (i := 0) 0 dX12_tellOne_249 rfl rfl ?_
    refine V_bipush X (v := (9 : Int32)) dX12_tellOne_250 (by decide) ?_
    refine V_iconst X (v := (0 : Int32)) dX12_tellOne_252 (by decide) ?_
    refine V_bipush X (v := (30 : Int32)) dX12_tellOne_253 (by decide) ?_
    refine K_12_tellNumber X (Or.inl q_1486) hZ h ⟨Nat.le_of_ble_eq_true rfl, Nat.le_of_ble_eq_true rfl⟩ ⟨Nat.zero_le _, Nat.zero_le _⟩ (st1 := []) (Nat.le_of_ble_eq_true rfl) dX12_tellOne_255 (fun w28 v29 h => ?_)
    refine V_aload_n X (i := 0) 0 dX12_tellOne_258 rfl rfl ?_
    refine V_iconst X (v := (4 : Int32)) dX12_tellOne_259 (by decide) ?_
    refine K_12_must X (Or.inl q_1498) hZ h ⟨Nat.le_of_ble_eq_true rfl, Nat.le_of_ble_eq_true rfl⟩ ⟨Nat.zero_le _, Nat.zero_le _⟩ (st1 := []) (Nat.le_of_ble_eq_true rfl) dX12_tellOne_260 (fun w30 v31 h => ?_)
    refine V_goto X (tgt := 423) dX12_tellOne_263 (by decide) ?_
    exact V_vret_m X hr dX12_tellOne_423 h
  have h := h c10
  obtain ⟨ht, h⟩ := h
  by_cases c11 : (w 153 (ix (w 150 11))) = (31 : Int32)
  · have h := ht c11
    refine V_tableIn X (tgt := 266) dX12_tellOne_9 (by rw [c11]; decide) (by rw [c11]; decide) (off := 257) (by rw [c11]; decide) (by decide) ?_
    refine V_aload_n X (i := 0) 0 dX12_tellOne_266 rfl rfl ?_
    refine K_12_goesOn X (Or.inl q_1478) hZ h ⟨Nat.le_of_ble_eq_true rfl, Nat.le_of_ble_eq_true rfl⟩ ⟨Nat.zero_le _, Nat.zero_le _⟩ (st1 := []) (Nat.le_of_ble_eq_true rfl) dX12_tellOne_267 (fun w32 v33 h => ?_)
    refine V_aload_n X (i := 0) 0 dX12_tellOne_270 rfl rfl ?_
    refine V_bipush X (v := (10 : Int32)) dX12_tellOne_271 (by decide) ?_
    refine V_iconst X (v := (0 : Int32)) dX12_tellOne_273 (by decide) ?_
    refine V_bipush X (v := (30 : Int32)) dX12_tellOne_274 (by decide) ?_
    refine K_12_tellNumber X (Or.inl q_1486) hZ h ⟨Nat.le_of_ble_eq_true rfl, Nat.le_of_ble_eq_true rfl⟩ ⟨Nat.zero_le _, Nat.zero_le _⟩ (st1 := []) (Nat.le_of_ble_eq_true rfl) dX12_tellOne_276 (fun w34 v35 h => ?_)
    refine V_aload_n X (i := 0) 0 dX12_tellOne_279 rfl rfl ?_
    refine V_bipush X (v := (11 : Int32)) dX12_tellOne_280 (by decide) ?_
    refine V_iconst X (v := (1 : Int32)) dX12_tellOne_282 (by decide) ?_
    refine V_sipush X (v := (300 : Int32)) dX12_tellOne_283 (by decide) ?_
    refine K_12_tellNumber X (Or.inl q_1486) hZ h ⟨Nat.le_of_ble_eq_true rfl, Nat.le_of_ble_eq_true rfl⟩ ⟨Nat.zero_le _, Nat.zero_le _⟩ (st1 := []) (Nat.le_of_ble_eq_true rfl) dX12_tellOne_286 (fun w36 v37 h => ?_)
    refine V_aload_n X (i := 0) 0 dX12_tellOne_289 rfl rfl ?_
    refine V_iconst X (v := (4 : Int32)) dX12_tellOne_290 (by decide) ?_
    refine K_12_must X (Or.inl q_1498) hZ h ⟨Nat.le_of_ble_eq_true rfl, Nat.le_of_ble_eq_true rfl⟩ ⟨Nat.zero_le _, Nat.zero_le _⟩ (st1 := []) (Nat.le_of_ble_eq_true rfl) dX12_tellOne_291 (fun w38 v39 h => ?_)
    refine V_goto X (tgt := 423) dX12_tellOne_294 (by decide) ?_
    exact V_vret_m X hr dX12_tellOne_423 h
  have h := h c11
  obtain ⟨ht, h⟩ := h
  by_cases c12 : (w 153 (ix (w 150 11))) = (32 : Int32)
  · have h := ht c12
    refine V_tableIn X (tgt := 297) dX12_tellOne_9 (by rw [c12]; decide) (by rw [c12]; decide) (off := 288) (by rw [c12]; decide) (by decide) ?_
    refine V_aload_n X (i := 0) 0 dX12_tellOne_297 rfl rfl ?_
    refine K_12_goesOn X (Or.inl q_1478) hZ h ⟨Nat.le_of_ble_eq_true rfl, Nat.le_of_ble_eq_true rfl⟩ ⟨Nat.zero_le _, Nat.zero_le _⟩ (st1 := []) (Nat.le_of_ble_eq_true rfl) dX12_tellOne_298 (fun w40 v41 h => ?_)
    refine V_aload_n X (i := 0) 0 dX12_tellOne_301 rfl rfl ?_
    refine V_bipush X (v := (12 : Int32)) dX12_tellOne_302 (by decide) ?_
    refine V_iconst X (v := (0 : Int32)) dX12_tellOne_304 (by decide) ?_
    refine V_bipush X (v := (40 : Int32)) dX12_tellOne_305 (by decide) ?_
    refine K_12_tellNumber X (Or.inl q_1486) hZ h ⟨Nat.le_of_ble_eq_true rfl, Nat.le_of_ble_eq_true rfl⟩ ⟨Nat.zero_le _, Nat.zero_le _⟩ (st1 := []) (Nat.le_of_ble_eq_true rfl) dX12_tellOne_307 (fun w42 v43 h => ?_)
    refine V_aload_n X (i := 0) 0 dX12_tellOne_310 rfl rfl ?_
    refine V_bipush X (v := (13 : Int32)) dX12_tellOne_311 (by decide) ?_
    refine V_iconst X (v := (0 : Int32)) dX12_tellOne_313 (by decide) ?_
    refine V_bipush X (v := (99 : Int32)) dX12_tellOne_314 (by decide) ?_
    refine K_12_tellNumber X (Or.inl q_1486) hZ h ⟨Nat.le_of_ble_eq_true rfl, Nat.le_of_ble_eq_true rfl⟩ ⟨Nat.zero_le _, Nat.zero_le _⟩ (st1 := []) (Nat.le_of_ble_eq_true rfl) dX12_tellOne_316 (fun w44 v45 h => ?_)
    refine V_aload_n X (i := 0) 0 dX12_tellOne_319 rfl rfl ?_
    refine V_iconst X (v := (4 : Int32)) dX12_tellOne_320 (by decide) ?_
    refine K_12_must X (Or.inl q_1498) hZ h ⟨Nat.le_of_ble_eq_true rfl, Nat.le_of_ble_eq_true rfl⟩ ⟨Nat.zero_le _, Nat.zero_le _⟩ (st1 := []) (Nat.le_of_ble_eq_true rfl) dX12_tellOne_321 (fun w46 v47 h => ?_)
    refine V_goto X (tgt := 423) dX12_tellOne_324 (by decide) ?_
    exact V_vret_m X hr dX12_tellOne_423 h
  have h := h c12
  obtain ⟨ht, h⟩ := h
  by_cases c13 : (w 153 (ix (w 150 11))) = (33 : Int32)
  · have h := ht c13
    refine V_tableIn X (tgt := 327) dX12_tellOne_9 (by rw [c13]; decide) (by rw [c13]; decide) (off := 318) (by rw [c13]; decide) (by decide) ?_
    refine V_aload_n X (i := 0) 0 dX12_tellOne_327 rfl rfl ?_
    refine K_12_goesOn X (Or.inl q_1478) hZ h ⟨Nat.le_of_ble_eq_true rfl, Nat.le_of_ble_eq_true rfl⟩ ⟨Nat.zero_le _, Nat.zero_le _⟩ (st1 := []) (Nat.le_of_ble_eq_true rfl) dX12_tellOne_328 (fun w48 v49 h => ?_)
    refine V_aload_n X (i := 0) 0 dX12_tellOne_331 rfl rfl ?_
    refine V_bipush X (v := (14 : Int32)) dX12_tellOne_332 (by decide) ?_
    refine V_iconst X (v := (1 : Int32)) dX12_tellOne_334 (by decide) ?_
    refine V_bipush X (v := (8 : Int32)) dX12_tellOne_335 (by decide) ?_
    refine K_12_tellNumber X (Or.inl q_1486) hZ h ⟨Nat.le_of_ble_eq_true rfl, Nat.le_of_ble_eq_true rfl⟩ ⟨Nat.zero_le _, Nat.zero_le _⟩ (st1 := []) (Nat.le_of_ble_eq_true rfl) dX12_tellOne_337 (fun w50 v51 h => ?_)
    refine V_aload_n X (i := 0) 0 dX12_tellOne_340 rfl rfl ?_
    refine V_iconst X (v := (4 : Int32)) dX12_tellOne_341 (by decide) ?_
    refine K_12_must X (Or.inl q_1498) hZ h ⟨Nat.le_of_ble_eq_true rfl, Nat.le_of_ble_eq_true rfl⟩ ⟨Nat.zero_le _, Nat.zero_le _⟩ (st1 := []) (Nat.le_of_ble_eq_true rfl) dX12_tellOne_342 (fun w52 v53 h => ?_)
    refine V_goto X (tgt := 423) dX12_tellOne_345 (by decide) ?_
    exact V_vret_m X hr dX12_tellOne_423 h
  have h := h c13
  obtain ⟨ht, h⟩ := h
  by_cases c14 : (w 153 (ix (w 150 11))) = (34 : Int32)
  · have h := ht c14
    refine V_tableIn X (tgt := 348) dX12_tellOne_9 (by rw [c14]; decide) (by rw [c14]; decide) (off := 339) (by rw [c14]; decide) (by decide) ?_
    refine V_aload_n X (i := 0) 0 dX12_tellOne_348 rfl rfl ?_
    refine K_12_goesOn X (Or.inl q_1478) hZ h ⟨Nat.le_of_ble_eq_true rfl, Nat.le_of_ble_eq_true rfl⟩ ⟨Nat.zero_le _, Nat.zero_le _⟩ (st1 := []) (Nat.le_of_ble_eq_true rfl) dX12_tellOne_349 (fun w54 v55 h => ?_)
    refine V_aload_n X (i := 0) 0 dX12_tellOne_352 rfl rfl ?_
    refine V_bipush X (v := (15 : Int32)) dX12_tellOne_353 (by decide) ?_
    refine V_iconst X (v := (0 : Int32)) dX12_tellOne_355 (by decide) ?_
    refine V_sipush X (v := (9999 : Int32)) dX12_tellOne_356 (by decide) ?_
    refine K_12_tellNumber X (Or.inl q_1486) hZ h ⟨Nat.le_of_ble_eq_true rfl, Nat.le_of_ble_eq_true rfl⟩ ⟨Nat.zero_le _, Nat.zero_le _⟩ (st1 := []) (Nat.le_of_ble_eq_true rfl) dX12_tellOne_359 (fun w56 v57 h => ?_)
    refine V_aload_n X (i := 0) 0 dX12_tellOne_362 rfl rfl ?_
    refine V_iconst X (v := (4 : Int32)) dX12_tellOne_363 (by decide) ?_
    refine K_12_must X (Or.inl q_1498) hZ h ⟨Nat.le_of_ble_eq_true rfl, Nat.le_of_ble_eq_true rfl⟩ ⟨Nat.zero_le _, Nat.zero_le _⟩ (st1 := []) (Nat.le_of_ble_eq_true rfl) dX12_tellOne_364 (fun w58 v59 h => ?_)
    refine V_goto X (tgt := 423) dX12_tellOne_367 (by decide) ?_
    exact V_vret_m X hr dX12_tellOne_423 h
  have h := h c14
  by_cases cO : (w 153 (ix (w 150 11))).toInt < 20 ∨ 34 < (w 153 (ix (w 150 11))).toInt
  · refine V_tableOut X (tgt := 370) dX12_tellOne_9 cO (by decide) ?_
    refine V_aload_n X (i := 0) 0 dX12_tellOne_370 rfl rfl ?_
    refine G_12_20 X hZ dX12_tellOne_371 ?_
    refine V_aload_n X (i := 0) 0 dX12_tellOne_374 rfl rfl ?_
    refine G_12_191 X hZ dX12_tellOne_375 ?_
    obtain ⟨g60, h⟩ := h
    refine V_iald_m X (rfl : SLq 153 = 403) (hzk hZ (by decide)) (rfl : SK 153 = 14) g60 dX12_tellOne_378 ?_
    refine V_bipush X (v := (21 : Int32)) dX12_tellOne_379 (by decide) ?_
    refine V_isub X dX12_tellOne_381 ?_
    obtain ⟨x61, ex61⟩ : ∃ y : Int32, y = ((w 153 (ix (w 150 11))) - (21 : Int32)) := ⟨_, rfl⟩
    have h := h x61 ex61
    refine V_istore_n X dX12_tellOne_382 rfl (by decide) ex61 (ls1 := [(1, .int x61), (0, .ref (ad 150))]) rfl ?_
    refine V_iload_n X (i := 1) 0 dX12_tellOne_383 rfl rfl ?_
    obtain ⟨ht, hf⟩ := h
    refine V_if_lt X (tgt := 401) dX12_tellOne_384 (by decide) (fun c => ?_) (fun c => ?_)
    · have h := ht c
      refine V_sub X (ls1 := [(0, .ref (ad 150)), (1, .int x61)]) [1, 0] rfl ?_
      exact v_12_tellOne_b401 X hr hZ _ _ _ h
    · have h := hf c
      refine V_aload_n X (i := 0) 1 dX12_tellOne_387 rfl rfl ?_
      refine G_12_20 X hZ dX12_tellOne_388 ?_
      refine V_aload_n X (i := 0) 1 dX12_tellOne_391 rfl rfl ?_
      refine G_12_191 X hZ dX12_tellOne_392 ?_
      obtain ⟨g62, h⟩ := h
      refine V_iald_m X (rfl : SLq 153 = 403) (hzk hZ (by decide)) (rfl : SK 153 = 14) g62 dX12_tellOne_395 ?_
      refine V_bipush X (v := (25 : Int32)) dX12_tellOne_396 (by decide) ?_
      obtain ⟨ht, hf⟩ := h
      refine V_icmp_le X (tgt := 406) dX12_tellOne_398 (by decide) (fun c => ?_) (fun c => ?_)
      · have h := ht c
        refine V_sub X (ls1 := [(0, .ref (ad 150)), (1, .int x61)]) [1, 0] rfl ?_
        exact v_12_tellOne_b406 X hr hZ _ _ _ h
      · have h := hf c
        refine V_sub X (ls1 := [(0, .ref (ad 150)), (1, .int x61)]) [1, 0] rfl ?_
        exact v_12_tellOne_b401 X hr hZ _ _ _ h
  · have g1 : (w 153 (ix (w 150 11))).toInt = 21 ∨ (w 153 (ix (w 150 11))).toInt = 22 ∨ (w 153 (ix (w 150 11))).toInt = 23 ∨ (w 153 (ix (w 150 11))).toInt = 24 ∨ (w 153 (ix (w 150 11))).toInt = 25 := by
      have z0 := tne c0 (z := 20) (by decide)
      have z6 := tne c6 (z := 26) (by decide)
      have z7 := tne c7 (z := 27) (by decide)
      have z8 := tne c8 (z := 28) (by decide)
      have z9 := tne c9 (z := 29) (by decide)
      have z10 := tne c10 (z := 30) (by decide)
      have z11 := tne c11 (z := 31) (by decide)
      have z12 := tne c12 (z := 32) (by decide)
      have z13 := tne c13 (z := 33) (by decide)
      have z14 := tne c14 (z := 34) (by decide)
      omega
    rcases g1 with g1 | g1 | g1 | g1 | g1
    · refine V_tableIn X (tgt := 370) dX12_tellOne_9 (by rw [g1]; decide) (by rw [g1]; decide) (off := 361) (by rw [g1]; decide) (by decide) ?_
      refine V_aload_n X (i := 0) 0 dX12_tellOne_370 rfl rfl ?_
      refine G_12_20 X hZ dX12_tellOne_371 ?_
      refine V_aload_n X (i := 0) 0 dX12_tellOne_374 rfl rfl ?_
      refine G_12_191 X hZ dX12_tellOne_375 ?_
      obtain ⟨g60, h⟩ := h
      refine V_iald_m X (rfl : SLq 153 = 403) (hzk hZ (by decide)) (rfl : SK 153 = 14) g60 dX12_tellOne_378 ?_
      refine V_bipush X (v := (21 : Int32)) dX12_tellOne_379 (by decide) ?_
      refine V_isub X dX12_tellOne_381 ?_
      obtain ⟨x61, ex61⟩ : ∃ y : Int32, y = ((w 153 (ix (w 150 11))) - (21 : Int32)) := ⟨_, rfl⟩
      have h := h x61 ex61
      refine V_istore_n X dX12_tellOne_382 rfl (by decide) ex61 (ls1 := [(1, .int x61), (0, .ref (ad 150))]) rfl ?_
      refine V_iload_n X (i := 1) 0 dX12_tellOne_383 rfl rfl ?_
      obtain ⟨ht, hf⟩ := h
      refine V_if_lt X (tgt := 401) dX12_tellOne_384 (by decide) (fun c => ?_) (fun c => ?_)
      · have h := ht c
        refine V_sub X (ls1 := [(0, .ref (ad 150)), (1, .int x61)]) [1, 0] rfl ?_
        exact v_12_tellOne_b401 X hr hZ _ _ _ h
      · have h := hf c
        refine V_aload_n X (i := 0) 1 dX12_tellOne_387 rfl rfl ?_
        refine G_12_20 X hZ dX12_tellOne_388 ?_
        refine V_aload_n X (i := 0) 1 dX12_tellOne_391 rfl rfl ?_
        refine G_12_191 X hZ dX12_tellOne_392 ?_
        obtain ⟨g62, h⟩ := h
        refine V_iald_m X (rfl : SLq 153 = 403) (hzk hZ (by decide)) (rfl : SK 153 = 14) g62 dX12_tellOne_395 ?_
        refine V_bipush X (v := (25 : Int32)) dX12_tellOne_396 (by decide) ?_
        obtain ⟨ht, hf⟩ := h
        refine V_icmp_le X (tgt := 406) dX12_tellOne_398 (by decide) (fun c => ?_) (fun c => ?_)
        · have h := ht c
          refine V_sub X (ls1 := [(0, .ref (ad 150)), (1, .int x61)]) [1, 0] rfl ?_
          exact v_12_tellOne_b406 X hr hZ _ _ _ h
        · have h := hf c
          refine V_sub X (ls1 := [(0, .ref (ad 150)), (1, .int x61)]) [1, 0] rfl ?_
          exact v_12_tellOne_b401 X hr hZ _ _ _ h
    · refine V_tableIn X (tgt := 370) dX12_tellOne_9 (by rw [g1]; decide) (by rw [g1]; decide) (off := 361) (by rw [g1]; decide) (by decide) ?_
      refine V_aload_n X (i := 0) 0 dX12_tellOne_370 rfl rfl ?_
      refine G_12_20 X hZ dX12_tellOne_371 ?_
      refine V_aload_n X (i := 0) 0 dX12_tellOne_374 rfl rfl ?_
      refine G_12_191 X hZ dX12_tellOne_375 ?_
      obtain ⟨g60, h⟩ := h
      refine V_iald_m X (rfl : SLq 153 = 403) (hzk hZ (by decide)) (rfl : SK 153 = 14) g60 dX12_tellOne_378 ?_
      refine V_bipush X (v := (21 : Int32)) dX12_tellOne_379 (by decide) ?_
      refine V_isub X dX12_tellOne_381 ?_
      obtain ⟨x61, ex61⟩ : ∃ y : Int32, y = ((w 153 (ix (w 150 11))) - (21 : Int32)) := ⟨_, rfl⟩
      have h := h x61 ex61
      refine V_istore_n X dX12_tellOne_382 rfl (by decide) ex61 (ls1 := [(1, .int x61), (0, .ref (ad 150))]) rfl ?_
      refine V_iload_n X (i := 1) 0 dX12_tellOne_383 rfl rfl ?_
      obtain ⟨ht, hf⟩ := h
      refine V_if_lt X (tgt := 401) dX12_tellOne_384 (by decide) (fun c => ?_) (fun c => ?_)
      · have h := ht c
        refine V_sub X (ls1 := [(0, .ref (ad 150)), (1, .int x61)]) [1, 0] rfl ?_
        exact v_12_tellOne_b401 X hr hZ _ _ _ h
      · have h := hf c
        refine V_aload_n X (i := 0) 1 dX12_tellOne_387 rfl rfl ?_
        refine G_12_20 X hZ dX12_tellOne_388 ?_
        refine V_aload_n X (i := 0) 1 dX12_tellOne_391 rfl rfl ?_
        refine G_12_191 X hZ dX12_tellOne_392 ?_
        obtain ⟨g62, h⟩ := h
        refine V_iald_m X (rfl : SLq 153 = 403) (hzk hZ (by decide)) (rfl : SK 153 = 14) g62 dX12_tellOne_395 ?_
        refine V_bipush X (v := (25 : Int32)) dX12_tellOne_396 (by decide) ?_
        obtain ⟨ht, hf⟩ := h
        refine V_icmp_le X (tgt := 406) dX12_tellOne_398 (by decide) (fun c => ?_) (fun c => ?_)
        · have h := ht c
          refine V_sub X (ls1 := [(0, .ref (ad 150)), (1, .int x61)]) [1, 0] rfl ?_
          exact v_12_tellOne_b406 X hr hZ _ _ _ h
        · have h := hf c
          refine V_sub X (ls1 := [(0, .ref (ad 150)), (1, .int x61)]) [1, 0] rfl ?_
          exact v_12_tellOne_b401 X hr hZ _ _ _ h
    · refine V_tableIn X (tgt := 370) dX12_tellOne_9 (by rw [g1]; decide) (by rw [g1]; decide) (off := 361) (by rw [g1]; decide) (by decide) ?_
      refine V_aload_n X (i := 0) 0 dX12_tellOne_370 rfl rfl ?_
      refine G_12_20 X hZ dX12_tellOne_371 ?_
      refine V_aload_n X (i := 0) 0 dX12_tellOne_374 rfl rfl ?_
      refine G_12_191 X hZ dX12_tellOne_375 ?_
      obtain ⟨g60, h⟩ := h
      refine V_iald_m X (rfl : SLq 153 = 403) (hzk hZ (by decide)) (rfl : SK 153 = 14) g60 dX12_tellOne_378 ?_
      refine V_bipush X (v := (21 : Int32)) dX12_tellOne_379 (by decide) ?_
      refine V_isub X dX12_tellOne_381 ?_
      obtain ⟨x61, ex61⟩ : ∃ y : Int32, y = ((w 153 (ix (w 150 11))) - (21 : Int32)) := ⟨_, rfl⟩
      have h := h x61 ex61
      refine V_istore_n X dX12_tellOne_382 rfl (by decide) ex61 (ls1 := [(1, .int x61), (0, .ref (ad 150))]) rfl ?_
      refine V_iload_n X (i := 1) 0 dX12_tellOne_383 rfl rfl ?_
      obtain ⟨ht, hf⟩ := h
      refine V_if_lt X (tgt := 401) dX12_tellOne_384 (by decide) (fun c => ?_) (fun c => ?_)
      · have h := ht c
        refine V_sub X (ls1 := [(0, .ref (ad 150)), (1, .int x61)]) [1, 0] rfl ?_
        exact v_12_tellOne_b401 X hr hZ _ _ _ h
      · have h := hf c
        refine V_aload_n X (i := 0) 1 dX12_tellOne_387 rfl rfl ?_
        refine G_12_20 X hZ dX12_tellOne_388 ?_
        refine V_aload_n X (i := 0) 1 dX12_tellOne_391 rfl rfl ?_
        refine G_12_191 X hZ dX12_tellOne_392 ?_
        obtain ⟨g62, h⟩ := h
        refine V_iald_m X (rfl : SLq 153 = 403) (hzk hZ (by decide)) (rfl : SK 153 = 14) g62 dX12_tellOne_395 ?_
        refine V_bipush X (v := (25 : Int32)) dX12_tellOne_396 (by decide) ?_
        obtain ⟨ht, hf⟩ := h
        refine V_icmp_le X (tgt := 406) dX12_tellOne_398 (by decide) (fun c => ?_) (fun c => ?_)
        · have h := ht c
          refine V_sub X (ls1 := [(0, .ref (ad 150)), (1, .int x61)]) [1, 0] rfl ?_
          exact v_12_tellOne_b406 X hr hZ _ _ _ h
        · have h := hf c
          refine V_sub X (ls1 := [(0, .ref (ad 150)), (1, .int x61)]) [1, 0] rfl ?_
          exact v_12_tellOne_b401 X hr hZ _ _ _ h
    · refine V_tableIn X (tgt := 370) dX12_tellOne_9 (by rw [g1]; decide) (by rw [g1]; decide) (off := 361) (by rw [g1]; decide) (by decide) ?_
      refine V_aload_n X (i := 0) 0 dX12_tellOne_370 rfl rfl ?_
      refine G_12_20 X hZ dX12_tellOne_371 ?_
      refine V_aload_n X (i := 0) 0 dX12_tellOne_374 rfl rfl ?_
      refine G_12_191 X hZ dX12_tellOne_375 ?_
      obtain ⟨g60, h⟩ := h
      refine V_iald_m X (rfl : SLq 153 = 403) (hzk hZ (by decide)) (rfl : SK 153 = 14) g60 dX12_tellOne_378 ?_
      refine V_bipush X (v := (21 : Int32)) dX12_tellOne_379 (by decide) ?_
      refine V_isub X dX12_tellOne_381 ?_
      obtain ⟨x61, ex61⟩ : ∃ y : Int32, y = ((w 153 (ix (w 150 11))) - (21 : Int32)) := ⟨_, rfl⟩
      have h := h x61 ex61
      refine V_istore_n X dX12_tellOne_382 rfl (by decide) ex61 (ls1 := [(1, .int x61), (0, .ref (ad 150))]) rfl ?_
      refine V_iload_n X (i := 1) 0 dX12_tellOne_383 rfl rfl ?_
      obtain ⟨ht, hf⟩ := h
      refine V_if_lt X (tgt := 401) dX12_tellOne_384 (by decide) (fun c => ?_) (fun c => ?_)
      · have h := ht c
        refine V_sub X (ls1 := [(0, .ref (ad 150)), (1, .int x61)]) [1, 0] rfl ?_
        exact v_12_tellOne_b401 X hr hZ _ _ _ h
      · have h := hf c
        refine V_aload_n X (i := 0) 1 dX12_tellOne_387 rfl rfl ?_
        refine G_12_20 X hZ dX12_tellOne_388 ?_
        refine V_aload_n X (i := 0) 1 dX12_tellOne_391 rfl rfl ?_
        refine G_12_191 X hZ dX12_tellOne_392 ?_
        obtain ⟨g62, h⟩ := h
        refine V_iald_m X (rfl : SLq 153 = 403) (hzk hZ (by decide)) (rfl : SK 153 = 14) g62 dX12_tellOne_395 ?_
        refine V_bipush X (v := (25 : Int32)) dX12_tellOne_396 (by decide) ?_
        obtain ⟨ht, hf⟩ := h
        refine V_icmp_le X (tgt := 406) dX12_tellOne_398 (by decide) (fun c => ?_) (fun c => ?_)
        · have h := ht c
          refine V_sub X (ls1 := [(0, .ref (ad 150)), (1, .int x61)]) [1, 0] rfl ?_
          exact v_12_tellOne_b406 X hr hZ _ _ _ h
        · have h := hf c
          refine V_sub X (ls1 := [(0, .ref (ad 150)), (1, .int x61)]) [1, 0] rfl ?_
          exact v_12_tellOne_b401 X hr hZ _ _ _ h
    · refine V_tableIn X (tgt := 370) dX12_tellOne_9 (by rw [g1]; decide) (by rw [g1]; decide) (off := 361) (by rw [g1]; decide) (by decide) ?_
      refine V_aload_n X (i := 0) 0 dX12_tellOne_370 rfl rfl ?_
      refine G_12_20 X hZ dX12_tellOne_371 ?_
      refine V_aload_n X (i := 0) 0 dX12_tellOne_374 rfl rfl ?_
      refine G_12_191 X hZ dX12_tellOne_375 ?_
      obtain ⟨g60, h⟩ := h
      refine V_iald_m X (rfl : SLq 153 = 403) (hzk hZ (by decide)) (rfl : SK 153 = 14) g60 dX12_tellOne_378 ?_
      refine V_bipush X (v := (21 : Int32)) dX12_tellOne_379 (by decide) ?_
      refine V_isub X dX12_tellOne_381 ?_
      obtain ⟨x61, ex61⟩ : ∃ y : Int32, y = ((w 153 (ix (w 150 11))) - (21 : Int32)) := ⟨_, rfl⟩
      have h := h x61 ex61
      refine V_istore_n X dX12_tellOne_382 rfl (by decide) ex61 (ls1 := [(1, .int x61), (0, .ref (ad 150))]) rfl ?_
      refine V_iload_n X (i := 1) 0 dX12_tellOne_383 rfl rfl ?_
      obtain ⟨ht, hf⟩ := h
      refine V_if_lt X (tgt := 401) dX12_tellOne_384 (by decide) (fun c => ?_) (fun c => ?_)
      · have h := ht c
        refine V_sub X (ls1 := [(0, .ref (ad 150)), (1, .int x61)]) [1, 0] rfl ?_
        exact v_12_tellOne_b401 X hr hZ _ _ _ h
      · have h := hf c
        refine V_aload_n X (i := 0) 1 dX12_tellOne_387 rfl rfl ?_
        refine G_12_20 X hZ dX12_tellOne_388 ?_
        refine V_aload_n X (i := 0) 1 dX12_tellOne_391 rfl rfl ?_
        refine G_12_191 X hZ dX12_tellOne_392 ?_
        obtain ⟨g62, h⟩ := h
        refine V_iald_m X (rfl : SLq 153 = 403) (hzk hZ (by decide)) (rfl : SK 153 = 14) g62 dX12_tellOne_395 ?_
        refine V_bipush X (v := (25 : Int32)) dX12_tellOne_396 (by decide) ?_
        obtain ⟨ht, hf⟩ := h
        refine V_icmp_le X (tgt := 406) dX12_tellOne_398 (by decide) (fun c => ?_) (fun c => ?_)
        · have h := ht c
          refine V_sub X (ls1 := [(0, .ref (ad 150)), (1, .int x61)]) [1, 0] rfl ?_
          exact v_12_tellOne_b406 X hr hZ _ _ _ h
        · have h := hf c
          refine V_sub X (ls1 := [(0, .ref (ad 150)), (1, .int x61)]) [1, 0] rfl ?_
          exact v_12_tellOne_b401 X hr hZ _ _ _ h
theorem c_12_tellOne (hinj : INJ ad) (hZ : ad 1000 = 189) {w : Mem} {wl : MemL} {Q : Mem → MemL → Prop} (h : wp_12_tellOne w wl Q) : Met l yX12_tellOne (TBq yX12_tellOne cX12_tellOne 2 none) (RM 6) (va_Pc [.ref (ad 150)] (PB ad cy D (cmb wc w) wl)) (va_Qv (fun (u : Mem × MemL) => Q u.1 u.2) (BM ad cy D wc) (AW ad)) 0 0 (AW ad) := M_enter (by decide) (Nat.le_of_ble_eq_true rfl) hinj (fun p e s m args below meth c X hr => v_12_tellOne X hr hZ h)
theorem mf_12_tellOne : MFV yX12_tellOne cX12_tellOne 2 none yX12_tellOne.cls 0 := ⟨q_1477, q_1476, qs_48, q_14, by decide⟩
theorem K_12_tellOne {own : String} {idx : Nat} (X : CXq p s m args meth c cc nL own ad cy D A H0) (hL : LK own idx yX12_tellOne) (hZ : ad 1000 = 189) {w : Mem} {wl : MemL} {Q : Mem → MemL → Prop} (h : wp_12_tellOne w wl Q) (hR : (RM 6).frames + 1 ≤ R.frames ∧ 8 + (2 + 11) + (RM 6).locals ≤ R.locals) (hce : ce ≤ R.cells ∧ sl ≤ R.slots) (hcat : (st1.map fun v => v.category).sum ≤ 8) (hd : decode cc pc = .ok (.invokevirtual idx, 3)) (kk : ∀ (u : Mem) (v : MemL), Q u v → V p l e R s m args below meth c nL ad cy D A H0 ce sl Qs wc u v (pc + 3) ls st1) : V p l e R s m args below meth c nL ad cy D A H0 ce sl Qs wc w wl pc ls (.ref (ad 150) :: st1) := V_callVV_m X mf_12_tellOne hL (rfl : vwCl[12]? = some (RX12, TX12, 72)) (by decide) (rfl : SK 150 = 12) (hzk hZ (by decide)).2 (c_12_tellOne X.2.2.2.2.2.2.2.1 hZ h) (As := []) rfl ⟨rfl, rfl⟩ hR hce st1 rfl hcat hd kk
set_option maxRecDepth 20000 in
theorem v_12_tell0 {a1 : Int32} (X : CXq p s m args meth c cX12_tell0 2 yX12_tell0.cls ad cy D (AW ad) s.heap) (hr : meth.sig.returnType = (some .int)) (hZ : ad 1000 = 189) {w : Mem} {wl : MemL} {Q : Int32 → Mem → MemL → Prop} (h : wp_12_tell0 a1 w wl Q) : V p l e (RM 0) s m args below meth c 2 ad cy D (AW ad) s.heap 0 0 (MQ below (va_Qi (fun r (u : Mem × MemL) => Q r u.1 u.2) (BM ad cy D wc) (AW ad)) args s 0 0 (AW ad)) wc w wl 0 [(0, .ref (ad 150)), (1, .int a1)] [] := by
  unfold wp_12_tell0 at h
  refine V_aload_n X (i := 0) 0 dX12_tell0_0 rfl rfl ?_
  refine G_12_43 X hZ dX12_tell0_1 ?_
  refine V_bipush X (v := (20 : Int32)) dX12_tell0_4 (by decide) ?_
  refine V_aload_n X (i := 0) 0 dX12_tell0_6 rfl rfl ?_
  refine G_12_218 X hZ dX12_tell0_7 ?_
  refine V_imul X dX12_tell0_10 ?_
  refine V_iload_n X (i := 1) 1 dX12_tell0_11 rfl rfl ?_
  refine V_iadd X dX12_tell0_12 ?_
  obtain ⟨g1, h⟩ := h
  refine V_iald_m X (rfl : SLq 159 = 40) (hzk hZ (by decide)) (rfl : SK 159 = 14) g1 dX12_tell0_13 ?_
  exact V_iret_m X hr dX12_tell0_14 h
theorem c_12_tell0 {a1 : Int32} (hinj : INJ ad) (hZ : ad 1000 = 189) {w : Mem} {wl : MemL} {Q : Int32 → Mem → MemL → Prop} (h : wp_12_tell0 a1 w wl Q) : Met l yX12_tell0 (TBq yX12_tell0 cX12_tell0 2 (some .int)) (RM 0) (va_Pc [.ref (ad 150), .int a1] (PB ad cy D (cmb wc w) wl)) (va_Qi (fun r (u : Mem × MemL) => Q r u.1 u.2) (BM ad cy D wc) (AW ad)) 0 0 (AW ad) := M_enter (by decide) (Nat.le_of_ble_eq_true rfl) hinj (fun p e s m args below meth c X hr => v_12_tell0 X hr hZ h)
theorem mf_12_tell0 : MFV yX12_tell0 cX12_tell0 2 (some .int) yX12_tell0.cls 1 := ⟨q_1206, q_1205, qs_39, q_14, by decide⟩
theorem K_12_tell0 {own : String} {idx : Nat} {a1 : Int32} (X : CXq p s m args meth c cc nL own ad cy D A H0) (hL : LK own idx yX12_tell0) (hZ : ad 1000 = 189) {w : Mem} {wl : MemL} {Q : Int32 → Mem → MemL → Prop} (h : wp_12_tell0 a1 w wl Q) (hR : (RM 0).frames + 1 ≤ R.frames ∧ 8 + (2 + 11) + (RM 0).locals ≤ R.locals) (hce : ce ≤ R.cells ∧ sl ≤ R.slots) (hcat : (st1.map fun v => v.category).sum ≤ 8) (hd : decode cc pc = .ok (.invokevirtual idx, 3)) (kk : ∀ (r : Int32) (u : Mem) (v : MemL), Q r u v → V p l e R s m args below meth c nL ad cy D A H0 ce sl Qs wc u v (pc + 3) ls (.int r :: st1)) : V p l e R s m args below meth c nL ad cy D A H0 ce sl Qs wc w wl pc ls (.int a1 :: .ref (ad 150) :: st1) := V_callVI_m X mf_12_tell0 hL (rfl : vwCl[12]? = some (RX12, TX12, 72)) (by decide) (rfl : SK 150 = 12) (hzk hZ (by decide)).2 (c_12_tell0 X.2.2.2.2.2.2.2.1 hZ h) (As := [.int a1]) rfl ⟨rfl, rfl⟩ hR hce st1 rfl hcat hd kk
set_option maxRecDepth 20000 in
theorem v_12_plainly (X : CXq p s m args meth c cX12_plainly 1 yX12_plainly.cls ad cy D (AW ad) s.heap) (hr : meth.sig.returnType = none) (hZ : ad 1000 = 189) {w : Mem} {wl : MemL} {Q : Mem → MemL → Prop} (h : wp_12_plainly w wl Q) : V p l e (RM 1) s m args below meth c 1 ad cy D (AW ad) s.heap 0 0 (MQ below (va_Qv (fun (u : Mem × MemL) => Q u.1 u.2) (BM ad cy D wc) (AW ad)) args s 0 0 (AW ad)) wc w wl 0 [(0, .ref (ad 150))] [] := by
  unfold wp_12_plainly at h
  refine V_aload_n X (i := 0) 0 dX12_plainly_0 rfl rfl ?_
  refine V_aload_n X (i := 0) 0 dX12_plainly_1 rfl rfl ?_
  refine V_bipush X (v := (15 : Int32)) dX12_plainly_2 (by decide) ?_
  refine K_12_tell0 X (Or.inl q_1203) hZ h ⟨Nat.le_of_ble_eq_true rfl, Nat.le_of_ble_eq_true rfl⟩ ⟨Nat.zero_le _, Nat.zero_le _⟩ (st1 := [.ref (ad 150)]) (Nat.le_of_ble_eq_true rfl) dX12_plainly_4 (fun r2 w1 v3 h => ?_)
  obtain ⟨w4, ew4⟩ : ∃ y : Mem, y = st w1 150 49 r2 := ⟨_, rfl⟩
  have h := h w4 ew4
  refine U_12_303 X hZ rfl rfl dX12_plainly_7 ew4 ?_
  refine V_aload_n X (i := 0) 0 dX12_plainly_10 rfl rfl ?_
  refine V_iconst X (v := (0 : Int32)) dX12_plainly_11 (by decide) ?_
  obtain ⟨w5, ew5⟩ : ∃ y : Mem, y = st w4 150 50 (0 : Int32) := ⟨_, rfl⟩
  have h := h w5 ew5
  refine U_12_306 X hZ rfl rfl dX12_plainly_12 ew5 ?_
  exact V_vret_m X hr dX12_plainly_15 h
theorem c_12_plainly (hinj : INJ ad) (hZ : ad 1000 = 189) {w : Mem} {wl : MemL} {Q : Mem → MemL → Prop} (h : wp_12_plainly w wl Q) : Met l yX12_plainly (TBq yX12_plainly cX12_plainly 1 none) (RM 1) (va_Pc [.ref (ad 150)] (PB ad cy D (cmb wc w) wl)) (va_Qv (fun (u : Mem × MemL) => Q u.1 u.2) (BM ad cy D wc) (AW ad)) 0 0 (AW ad) := M_enter (by decide) (Nat.le_of_ble_eq_true rfl) hinj (fun p e s m args below meth c X hr => v_12_plainly X hr hZ h)
theorem mf_12_plainly : MFV yX12_plainly cX12_plainly 1 none yX12_plainly.cls 0 := ⟨q_1210, q_1209, qs_40, q_14, by decide⟩
theorem K_12_plainly {own : String} {idx : Nat} (X : CXq p s m args meth c cc nL own ad cy D A H0) (hL : LK own idx yX12_plainly) (hZ : ad 1000 = 189) {w : Mem} {wl : MemL} {Q : Mem → MemL → Prop} (h : wp_12_plainly w wl Q) (hR : (RM 1).frames + 1 ≤ R.frames ∧ 8 + (1 + 11) + (RM 1).locals ≤ R.locals) (hce : ce ≤ R.cells ∧ sl ≤ R.slots) (hcat : (st1.map fun v => v.category).sum ≤ 8) (hd : decode cc pc = .ok (.invokevirtual idx, 3)) (kk : ∀ (u : Mem) (v : MemL), Q u v → V p l e R s m args below meth c nL ad cy D A H0 ce sl Qs wc u v (pc + 3) ls st1) : V p l e R s m args below meth c nL ad cy D A H0 ce sl Qs wc w wl pc ls (.ref (ad 150) :: st1) := V_callVV_m X mf_12_plainly hL (rfl : vwCl[12]? = some (RX12, TX12, 72)) (by decide) (rfl : SK 150 = 12) (hzk hZ (by decide)).2 (c_12_plainly X.2.2.2.2.2.2.2.1 hZ h) (As := []) rfl ⟨rfl, rfl⟩ hR hce st1 rfl hcat hd kk
set_option maxRecDepth 20000 in
theorem v_12_begins_b2 (X : CXq p s m args meth c cX12_begins 2 yX12_begins.cls ad cy D (AW ad) s.heap) (hr : meth.sig.returnType = none) (hZ : ad 1000 = 189) {Q : Mem → MemL → Prop} : ∀ (n : Nat) (l1 : Int32) (w : Mem) (wl : MemL), wp_12_begins_b2 Q n l1 w wl → V p l e (RM 2) s m args below meth c 2 ad cy D (AW ad) s.heap 0 0 (MQ below (va_Qv (fun (u : Mem × MemL) => Q u.1 u.2) (BM ad cy D wc) (AW ad)) args s 0 0 (AW ad)) wc w wl 2 [(0, .ref (ad 150)), (1, .int l1)] [] := by
  intro n
  induction n with
  | zero =>
    intro l1 w wl h
    exact h.elim
  | succ n ih =>
    intro l1 w wl h
    unfold wp_12_begins_b2 at h
    refine V_iload_n X (i := 1) 1 dX12_begins_2 rfl rfl ?_
    refine V_sipush X (v := (260 : Int32)) dX12_begins_3 (by decide) ?_
    obtain ⟨ht, hf⟩ := h
    refine V_icmp_ge X (tgt := 22) dX12_begins_6 (by decide) (fun c => ?_) (fun c => ?_)
    · have h := ht c
      refine V_aload_n X (i := 0) 0 dX12_begins_22 rfl rfl ?_
      refine G_12_110 X hZ dX12_begins_23 ?_
      refine V_iconst X (v := (1 : Int32)) dX12_begins_26 (by decide) ?_
      refine V_iconst X (v := (1 : Int32)) dX12_begins_27 (by decide) ?_
      obtain ⟨w1, ew1⟩ : ∃ y : Mem, y = st w 181 (ix (1 : Int32)) (1 : Int32) := ⟨_, rfl⟩
      have h := h w1 ew1
      refine V_iast_m X (rfl : SLq 181 = 260) (hzk hZ (by decide)) (rfl : SK 181 = 14) (vpl (by decide)) dX12_begins_28 ew1 ?_
      refine V_aload_n X (i := 0) 0 dX12_begins_29 rfl rfl ?_
      refine G_12_110 X hZ dX12_begins_30 ?_
      refine V_iconst X (v := (2 : Int32)) dX12_begins_33 (by decide) ?_
      refine V_aload_n X (i := 0) 0 dX12_begins_34 rfl rfl ?_
      refine V_bipush X (v := (12 : Int32)) dX12_begins_35 (by decide) ?_
      refine K_12_tell0 X (Or.inl q_1203) hZ h ⟨Nat.le_of_ble_eq_true rfl, Nat.le_of_ble_eq_true rfl⟩ ⟨Nat.zero_le _, Nat.zero_le _⟩ (st1 := [.int (2 : Int32), .ref (ad 181)]) (Nat.le_of_ble_eq_true rfl) dX12_begins_37 (fun r3 w2 v4 h => ?_)
      obtain ⟨w5, ew5⟩ : ∃ y : Mem, y = st w2 181 (ix (2 : Int32)) r3 := ⟨_, rfl⟩
      have h := h w5 ew5
      refine V_iast_m X (rfl : SLq 181 = 260) (hzk hZ (by decide)) (rfl : SK 181 = 14) (vpl (by decide)) dX12_begins_40 ew5 ?_
      refine V_aload_n X (i := 0) 0 dX12_begins_41 rfl rfl ?_
      refine K_12_plainly X (Or.inl q_1207) hZ h ⟨Nat.le_of_ble_eq_true rfl, Nat.le_of_ble_eq_true rfl⟩ ⟨Nat.zero_le _, Nat.zero_le _⟩ (st1 := []) (Nat.le_of_ble_eq_true rfl) dX12_begins_42 (fun w6 v7 h => ?_)
      exact V_vret_m X hr dX12_begins_45 h
    · have h := hf c
      refine V_aload_n X (i := 0) 0 dX12_begins_9 rfl rfl ?_
      refine G_12_110 X hZ dX12_begins_10 ?_
      refine V_iload_n X (i := 1) 1 dX12_begins_13 rfl rfl ?_
      refine V_iconst X (v := (0 : Int32)) dX12_begins_14 (by decide) ?_
      obtain ⟨g8, h⟩ := h
      obtain ⟨w9, ew9⟩ : ∃ y : Mem, y = st w 181 (ix l1) (0 : Int32) := ⟨_, rfl⟩
      have h := h w9 ew9
      refine V_iast_m X (rfl : SLq 181 = 260) (hzk hZ (by decide)) (rfl : SK 181 = 14) g8 dX12_begins_15 ew9 ?_
      obtain ⟨x10, ex10⟩ : ∃ y : Int32, y = l1 + (1 : Int32) := ⟨_, rfl⟩
      have h := h x10 ex10
      refine V_iinc X 1 dX12_begins_16 rfl (by decide) (by rw [ex10]; rfl) (ls1 := [(1, .int x10), (0, .ref (ad 150))]) rfl ?_
      refine V_goto X (tgt := 2) dX12_begins_19 (by decide) ?_
      refine V_sub X (ls1 := [(0, .ref (ad 150)), (1, .int x10)]) [1, 0] rfl ?_
      exact ih _ _ _ h
set_option maxRecDepth 20000 in
theorem v_12_begins (X : CXq p s m args meth c cX12_begins 2 yX12_begins.cls ad cy D (AW ad) s.heap) (hr : meth.sig.returnType = none) (hZ : ad 1000 = 189) {w : Mem} {wl : MemL} {Q : Mem → MemL → Prop} (h : wp_12_begins w wl Q) : V p l e (RM 2) s m args below meth c 2 ad cy D (AW ad) s.heap 0 0 (MQ below (va_Qv (fun (u : Mem × MemL) => Q u.1 u.2) (BM ad cy D wc) (AW ad)) args s 0 0 (AW ad)) wc w wl 0 [(0, .ref (ad 150))] [] := by
  unfold wp_12_begins at h
  refine V_iconst X (v := (0 : Int32)) dX12_begins_0 (by decide) ?_
  refine V_istore_n X dX12_begins_1 rfl (by decide) rfl (ls1 := [(1, .int (0 : Int32)), (0, .ref (ad 150))]) rfl ?_
  refine V_sub X (ls1 := [(0, .ref (ad 150)), (1, .int (0 : Int32))]) [1, 0] rfl ?_
  obtain ⟨nn, h⟩ := h
  exact v_12_begins_b2 X hr hZ nn _ _ _ h
theorem c_12_begins (hinj : INJ ad) (hZ : ad 1000 = 189) {w : Mem} {wl : MemL} {Q : Mem → MemL → Prop} (h : wp_12_begins w wl Q) : Met l yX12_begins (TBq yX12_begins cX12_begins 2 none) (RM 2) (va_Pc [.ref (ad 150)] (PB ad cy D (cmb wc w) wl)) (va_Qv (fun (u : Mem × MemL) => Q u.1 u.2) (BM ad cy D wc) (AW ad)) 0 0 (AW ad) := M_enter (by decide) (Nat.le_of_ble_eq_true rfl) hinj (fun p e s m args below meth c X hr => v_12_begins X hr hZ h)
theorem mf_12_begins : MFV yX12_begins cX12_begins 2 none yX12_begins.cls 0 := ⟨q_1202, q_1201, qs_38, q_14, by decide⟩
theorem K_12_begins {own : String} {idx : Nat} (X : CXq p s m args meth c cc nL own ad cy D A H0) (hL : LK own idx yX12_begins) (hZ : ad 1000 = 189) {w : Mem} {wl : MemL} {Q : Mem → MemL → Prop} (h : wp_12_begins w wl Q) (hR : (RM 2).frames + 1 ≤ R.frames ∧ 8 + (2 + 11) + (RM 2).locals ≤ R.locals) (hce : ce ≤ R.cells ∧ sl ≤ R.slots) (hcat : (st1.map fun v => v.category).sum ≤ 8) (hd : decode cc pc = .ok (.invokevirtual idx, 3)) (kk : ∀ (u : Mem) (v : MemL), Q u v → V p l e R s m args below meth c nL ad cy D A H0 ce sl Qs wc u v (pc + 3) ls st1) : V p l e R s m args below meth c nL ad cy D A H0 ce sl Qs wc w wl pc ls (.ref (ad 150) :: st1) := V_callVV_m X mf_12_begins hL (rfl : vwCl[12]? = some (RX12, TX12, 72)) (by decide) (rfl : SK 150 = 12) (hzk hZ (by decide)).2 (c_12_begins X.2.2.2.2.2.2.2.1 hZ h) (As := []) rfl ⟨rfl, rfl⟩ hR hce st1 rfl hcat hd kk
set_option maxRecDepth 20000 in
theorem v_12_keepsRow_b2 (X : CXq p s m args meth c cX12_keepsRow 2 yX12_keepsRow.cls ad cy D (AW ad) s.heap) (hr : meth.sig.returnType = none) (hZ : ad 1000 = 189) {Q : Mem → MemL → Prop} : ∀ (n : Nat) (l1 : Int32) (w : Mem) (wl : MemL), wp_12_keepsRow_b2 Q n l1 w wl → V p l e (RM 0) s m args below meth c 2 ad cy D (AW ad) s.heap 0 0 (MQ below (va_Qv (fun (u : Mem × MemL) => Q u.1 u.2) (BM ad cy D wc) (AW ad)) args s 0 0 (AW ad)) wc w wl 2 [(0, .ref (ad 150)), (1, .int l1)] [] := by
  intro n
  induction n with
  | zero =>
    intro l1 w wl h
    exact h.elim
  | succ n ih =>
    intro l1 w wl h
    unfold wp_12_keepsRow_b2 at h
    refine V_iload_n X (i := 1) 1 dX12_keepsRow_2 rfl rfl ?_
    refine V_sipush X (v := (260 : Int32)) dX12_keepsRow_3 (by decide) ?_
    obtain ⟨ht, hf⟩ := h
    refine V_icmp_ge X (tgt := 27) dX12_keepsRow_6 (by decide) (fun c => ?_) (fun c => ?_)
    · have h := ht c
      exact V_vret_m X hr dX12_keepsRow_27 h
    · have h := hf c
      refine V_aload_n X (i := 0) 0 dX12_keepsRow_9 rfl rfl ?_
      refine G_12_107 X hZ dX12_keepsRow_10 ?_
      refine V_iload_n X (i := 1) 1 dX12_keepsRow_13 rfl rfl ?_
      refine V_aload_n X (i := 0) 0 dX12_keepsRow_14 rfl rfl ?_
      refine G_12_110 X hZ dX12_keepsRow_15 ?_
      refine V_iload_n X (i := 1) 1 dX12_keepsRow_18 rfl rfl ?_
      obtain ⟨g1, h⟩ := h
      refine V_iald_m X (rfl : SLq 181 = 260) (hzk hZ (by decide)) (rfl : SK 181 = 14) g1 dX12_keepsRow_19 ?_
      obtain ⟨g2, h⟩ := h
      obtain ⟨w3, ew3⟩ : ∃ y : Mem, y = st w 180 (ix l1) (w 181 (ix l1)) := ⟨_, rfl⟩
      have h := h w3 ew3
      refine V_iast_m X (rfl : SLq 180 = 260) (hzk hZ (by decide)) (rfl : SK 180 = 14) g2 dX12_keepsRow_20 ew3 ?_
      obtain ⟨x4, ex4⟩ : ∃ y : Int32, y = l1 + (1 : Int32) := ⟨_, rfl⟩
      have h := h x4 ex4
      refine V_iinc X 1 dX12_keepsRow_21 rfl (by decide) (by rw [ex4]; rfl) (ls1 := [(1, .int x4), (0, .ref (ad 150))]) rfl ?_
      refine V_goto X (tgt := 2) dX12_keepsRow_24 (by decide) ?_
      refine V_sub X (ls1 := [(0, .ref (ad 150)), (1, .int x4)]) [1, 0] rfl ?_
      exact ih _ _ _ h
set_option maxRecDepth 20000 in
theorem v_12_keepsRow (X : CXq p s m args meth c cX12_keepsRow 2 yX12_keepsRow.cls ad cy D (AW ad) s.heap) (hr : meth.sig.returnType = none) (hZ : ad 1000 = 189) {w : Mem} {wl : MemL} {Q : Mem → MemL → Prop} (h : wp_12_keepsRow w wl Q) : V p l e (RM 0) s m args below meth c 2 ad cy D (AW ad) s.heap 0 0 (MQ below (va_Qv (fun (u : Mem × MemL) => Q u.1 u.2) (BM ad cy D wc) (AW ad)) args s 0 0 (AW ad)) wc w wl 0 [(0, .ref (ad 150))] [] := by
  unfold wp_12_keepsRow at h
  refine V_iconst X (v := (0 : Int32)) dX12_keepsRow_0 (by decide) ?_
  refine V_istore_n X dX12_keepsRow_1 rfl (by decide) rfl (ls1 := [(1, .int (0 : Int32)), (0, .ref (ad 150))]) rfl ?_
  refine V_sub X (ls1 := [(0, .ref (ad 150)), (1, .int (0 : Int32))]) [1, 0] rfl ?_
  obtain ⟨nn, h⟩ := h
  exact v_12_keepsRow_b2 X hr hZ nn _ _ _ h
theorem c_12_keepsRow (hinj : INJ ad) (hZ : ad 1000 = 189) {w : Mem} {wl : MemL} {Q : Mem → MemL → Prop} (h : wp_12_keepsRow w wl Q) : Met l yX12_keepsRow (TBq yX12_keepsRow cX12_keepsRow 2 none) (RM 0) (va_Pc [.ref (ad 150)] (PB ad cy D (cmb wc w) wl)) (va_Qv (fun (u : Mem × MemL) => Q u.1 u.2) (BM ad cy D wc) (AW ad)) 0 0 (AW ad) := M_enter (by decide) (Nat.le_of_ble_eq_true rfl) hinj (fun p e s m args below meth c X hr => v_12_keepsRow X hr hZ h)
theorem mf_12_keepsRow : MFV yX12_keepsRow cX12_keepsRow 2 none yX12_keepsRow.cls 0 := ⟨q_1214, q_1213, qs_41, q_14, by decide⟩
theorem K_12_keepsRow {own : String} {idx : Nat} (X : CXq p s m args meth c cc nL own ad cy D A H0) (hL : LK own idx yX12_keepsRow) (hZ : ad 1000 = 189) {w : Mem} {wl : MemL} {Q : Mem → MemL → Prop} (h : wp_12_keepsRow w wl Q) (hR : (RM 0).frames + 1 ≤ R.frames ∧ 8 + (2 + 11) + (RM 0).locals ≤ R.locals) (hce : ce ≤ R.cells ∧ sl ≤ R.slots) (hcat : (st1.map fun v => v.category).sum ≤ 8) (hd : decode cc pc = .ok (.invokevirtual idx, 3)) (kk : ∀ (u : Mem) (v : MemL), Q u v → V p l e R s m args below meth c nL ad cy D A H0 ce sl Qs wc u v (pc + 3) ls st1) : V p l e R s m args below meth c nL ad cy D A H0 ce sl Qs wc w wl pc ls (.ref (ad 150) :: st1) := V_callVV_m X mf_12_keepsRow hL (rfl : vwCl[12]? = some (RX12, TX12, 72)) (by decide) (rfl : SK 150 = 12) (hzk hZ (by decide)).2 (c_12_keepsRow X.2.2.2.2.2.2.2.1 hZ h) (As := []) rfl ⟨rfl, rfl⟩ hR hce st1 rfl hcat hd kk
set_option maxRecDepth 20000 in
theorem v_12_read_b219 (X : CXq p s m args meth c cX12_read 2 yX12_read.cls ad cy D (AW ad) s.heap) (hr : meth.sig.returnType = (some .int)) (hZ : ad 1000 = 189) {Q : Int32 → Mem → MemL → Prop} : ∀ (n : Nat) (l1 : Int32) (w : Mem) (wl : MemL), wp_12_read_b219 Q n l1 w wl → V p l e (RM 7) s m args below meth c 2 ad cy D (AW ad) s.heap 0 0 (MQ below (va_Qi (fun r (u : Mem × MemL) => Q r u.1 u.2) (BM ad cy D wc) (AW ad)) args s 0 0 (AW ad)) wc w wl 219 [(0, .ref (ad 150)), (1, .int l1)] [] := by
  intro n
  induction n with
  | zero =>
    intro l1 w wl h
    exact h.elim
  | succ n ih =>
    intro l1 w wl h
    unfold wp_12_read_b219 at h
    refine V_iload_n X (i := 1) 1 dX12_read_219 rfl rfl ?_
    refine V_iconst X (v := (3 : Int32)) dX12_read_220 (by decide) ?_
    obtain ⟨ht, hf⟩ := h
    refine V_icmp_ge X (tgt := 237) dX12_read_221 (by decide) (fun c => ?_) (fun c => ?_)
    · have h := ht c
      refine V_iconst X (v := (0 : Int32)) dX12_read_237 (by decide) ?_
      exact V_iret_m X hr dX12_read_238 h
    · have h := hf c
      refine V_aload_n X (i := 0) 0 dX12_read_224 rfl rfl ?_
      refine G_12_131 X hZ dX12_read_225 ?_
      refine V_iload_n X (i := 1) 1 dX12_read_228 rfl rfl ?_
      refine V_iconst X (v := (0 : Int32)) dX12_read_229 (by decide) ?_
      obtain ⟨g1, h⟩ := h
      obtain ⟨w2, ew2⟩ : ∃ y : Mem, y = st w 187 (ix l1) (vp_nar .boolean (0 : Int32)) := ⟨_, rfl⟩
      have h := h w2 ew2
      refine V_zast_m X (rfl : SLq 187 = 3) (hzk hZ (by decide)) (rfl : SK 187 = 16) g1 dX12_read_230 ew2 ?_
      obtain ⟨x3, ex3⟩ : ∃ y : Int32, y = l1 + (1 : Int32) := ⟨_, rfl⟩
      have h := h x3 ex3
      refine V_iinc X 1 dX12_read_231 rfl (by decide) (by rw [ex3]; rfl) (ls1 := [(1, .int x3), (0, .ref (ad 150))]) rfl ?_
      refine V_goto X (tgt := 219) dX12_read_234 (by decide) ?_
      refine V_sub X (ls1 := [(0, .ref (ad 150)), (1, .int x3)]) [1, 0] rfl ?_
      exact ih _ _ _ h
set_option maxRecDepth 20000 in
theorem v_12_read_b164 (X : CXq p s m args meth c cX12_read 2 yX12_read.cls ad cy D (AW ad) s.heap) (hr : meth.sig.returnType = (some .int)) (hZ : ad 1000 = 189) {Q : Int32 → Mem → MemL → Prop} : ∀ (s1 : Int32) (w : Mem) (wl : MemL), wp_12_read_b164 Q s1 w wl → V p l e (RM 7) s m args below meth c 2 ad cy D (AW ad) s.heap 0 0 (MQ below (va_Qi (fun r (u : Mem × MemL) => Q r u.1 u.2) (BM ad cy D wc) (AW ad)) args s 0 0 (AW ad)) wc w wl 164 [(0, .ref (ad 150))] [.int s1, .ref (ad 150)] := by
  intro s1 w wl h
  unfold wp_12_read_b164 at h
  obtain ⟨w1, ew1⟩ : ∃ y : Mem, y = st w 150 17 s1 := ⟨_, rfl⟩
  have h := h w1 ew1
  refine U_12_37 X hZ rfl rfl dX12_read_164 ew1 ?_
  refine V_aload_n X (i := 0) 0 dX12_read_167 rfl rfl ?_
  refine G_12_188 X hZ dX12_read_168 ?_
  obtain ⟨ht, hf⟩ := h
  refine V_if_le X (tgt := 179) dX12_read_171 (by decide) (fun c => ?_) (fun c => ?_)
  · have h := ht c
    refine V_aload_n X (i := 0) 0 dX12_read_179 rfl rfl ?_
    refine G_12_197 X hZ dX12_read_180 ?_
    obtain ⟨ht, hf⟩ := h
    refine V_if_le X (tgt := 191) dX12_read_183 (by decide) (fun c => ?_) (fun c => ?_)
    · have h := ht c
      refine V_aload_n X (i := 0) 0 dX12_read_191 rfl rfl ?_
      refine V_aload_n X (i := 0) 0 dX12_read_192 rfl rfl ?_
      refine G_12_221 X hZ dX12_read_193 ?_
      obtain ⟨w2, ew2⟩ : ∃ y : Mem, y = st w1 150 18 (w1 150 19) := ⟨_, rfl⟩
      have h := h w2 ew2
      refine U_12_218 X hZ rfl rfl dX12_read_196 ew2 ?_
      refine V_aload_n X (i := 0) 0 dX12_read_199 rfl rfl ?_
      refine K_12_begins X (Or.inl q_1199) hZ h ⟨Nat.le_of_ble_eq_true rfl, Nat.le_of_ble_eq_true rfl⟩ ⟨Nat.zero_le _, Nat.zero_le _⟩ (st1 := []) (Nat.le_of_ble_eq_true rfl) dX12_read_200 (fun w3 v4 h => ?_)
      refine V_aload_n X (i := 0) 0 dX12_read_203 rfl rfl ?_
      refine K_12_keepsRow X (Or.inl q_1211) hZ h ⟨Nat.le_of_ble_eq_true rfl, Nat.le_of_ble_eq_true rfl⟩ ⟨Nat.zero_le _, Nat.zero_le _⟩ (st1 := []) (Nat.le_of_ble_eq_true rfl) dX12_read_204 (fun w5 v6 h => ?_)
      refine V_aload_n X (i := 0) 0 dX12_read_207 rfl rfl ?_
      refine V_iconst X (v := (0 : Int32)) dX12_read_208 (by decide) ?_
      obtain ⟨w7, ew7⟩ : ∃ y : Mem, y = st w5 150 64 (0 : Int32) := ⟨_, rfl⟩
      have h := h w7 ew7
      refine U_12_236 X hZ rfl rfl dX12_read_209 ew7 ?_
      refine V_aload_n X (i := 0) 0 dX12_read_212 rfl rfl ?_
      refine V_iconst X (v := (0 : Int32)) dX12_read_213 (by decide) ?_
      obtain ⟨w8, ew8⟩ : ∃ y : Mem, y = st w7 150 66 (0 : Int32) := ⟨_, rfl⟩
      have h := h w8 ew8
      refine U_12_239 X hZ rfl rfl dX12_read_214 ew8 ?_
      refine V_iconst X (v := (0 : Int32)) dX12_read_217 (by decide) ?_
      refine V_istore_n X dX12_read_218 rfl (by decide) rfl (ls1 := [(1, .int (0 : Int32)), (0, .ref (ad 150))]) rfl ?_
      refine V_sub X (ls1 := [(0, .ref (ad 150)), (1, .int (0 : Int32))]) [1, 0] rfl ?_
      obtain ⟨nn, h⟩ := h
      exact v_12_read_b219 X hr hZ nn _ _ _ h
    · have h := hf c
      refine V_aload_n X (i := 0) 0 dX12_read_186 rfl rfl ?_
      refine G_12_197 X hZ dX12_read_187 ?_
      exact V_iret_m X hr dX12_read_190 h
  · have h := hf c
    refine V_aload_n X (i := 0) 0 dX12_read_174 rfl rfl ?_
    refine G_12_188 X hZ dX12_read_175 ?_
    exact V_iret_m X hr dX12_read_178 h
set_option maxRecDepth 20000 in
theorem v_12_read_b134 (X : CXq p s m args meth c cX12_read 2 yX12_read.cls ad cy D (AW ad) s.heap) (hr : meth.sig.returnType = (some .int)) (hZ : ad 1000 = 189) {Q : Int32 → Mem → MemL → Prop} : ∀ (w : Mem) (wl : MemL), wp_12_read_b134 Q w wl → V p l e (RM 7) s m args below meth c 2 ad cy D (AW ad) s.heap 0 0 (MQ below (va_Qi (fun r (u : Mem × MemL) => Q r u.1 u.2) (BM ad cy D wc) (AW ad)) args s 0 0 (AW ad)) wc w wl 134 [(0, .ref (ad 150))] [] := by
  intro w wl h
  unfold wp_12_read_b134 at h
  refine V_aload_n X (i := 0) 0 dX12_read_134 rfl rfl ?_
  refine V_aload_n X (i := 0) 0 dX12_read_135 rfl rfl ?_
  refine G_12_188 X hZ dX12_read_136 ?_
  obtain ⟨ht, hf⟩ := h
  refine V_if_le X (tgt := 149) dX12_read_139 (by decide) (fun c => ?_) (fun c => ?_)
  · have h := ht c
    refine V_aload_n X (i := 0) 0 dX12_read_149 rfl rfl ?_
    refine G_12_197 X hZ dX12_read_150 ?_
    obtain ⟨ht, hf⟩ := h
    refine V_if_le X (tgt := 163) dX12_read_153 (by decide) (fun c => ?_) (fun c => ?_)
    · have h := ht c
      refine V_iconst X (v := (-1 : Int32)) dX12_read_163 (by decide) ?_
      refine V_sub X (ls1 := [(0, .ref (ad 150))]) [0] rfl ?_
      exact v_12_read_b164 X hr hZ _ _ _ h
    · have h := hf c
      refine V_aload_n X (i := 0) 0 dX12_read_156 rfl rfl ?_
      refine G_12_200 X hZ dX12_read_157 ?_
      refine V_goto X (tgt := 164) dX12_read_160 (by decide) ?_
      refine V_sub X (ls1 := [(0, .ref (ad 150))]) [0] rfl ?_
      exact v_12_read_b164 X hr hZ _ _ _ h
  · have h := hf c
    refine V_aload_n X (i := 0) 0 dX12_read_142 rfl rfl ?_
    refine G_12_194 X hZ dX12_read_143 ?_
    refine V_goto X (tgt := 164) dX12_read_146 (by decide) ?_
    refine V_sub X (ls1 := [(0, .ref (ad 150))]) [0] rfl ?_
    exact v_12_read_b164 X hr hZ _ _ _ h
set_option maxRecDepth 20000 in
theorem v_12_read_b112 (X : CXq p s m args meth c cX12_read 2 yX12_read.cls ad cy D (AW ad) s.heap) (hr : meth.sig.returnType = (some .int)) (hZ : ad 1000 = 189) {Q : Int32 → Mem → MemL → Prop} : ∀ (n : Nat) (w : Mem) (wl : MemL), wp_12_read_b112 Q n w wl → V p l e (RM 7) s m args below meth c 2 ad cy D (AW ad) s.heap 0 0 (MQ below (va_Qi (fun r (u : Mem × MemL) => Q r u.1 u.2) (BM ad cy D wc) (AW ad)) args s 0 0 (AW ad)) wc w wl 112 [(0, .ref (ad 150))] [] := by
  intro n
  induction n with
  | zero =>
    intro w wl h
    exact h.elim
  | succ n ih =>
    intro w wl h
    unfold wp_12_read_b112 at h
    refine V_aload_n X (i := 0) 0 dX12_read_112 rfl rfl ?_
    refine G_12_188 X hZ dX12_read_113 ?_
    obtain ⟨ht, hf⟩ := h
    refine V_if_ne X (tgt := 134) dX12_read_116 (by decide) (fun c => ?_) (fun c => ?_)
    · have h := ht c
      refine V_sub X (ls1 := [(0, .ref (ad 150))]) [0] rfl ?_
      exact v_12_read_b134 X hr hZ _ _ h
    · have h := hf c
      refine V_aload_n X (i := 0) 0 dX12_read_119 rfl rfl ?_
      refine V_iconst X (v := (0 : Int32)) dX12_read_120 (by decide) ?_
      refine K_12_is X (Or.inl q_1470) hZ h ⟨Nat.le_of_ble_eq_true rfl, Nat.le_of_ble_eq_true rfl⟩ ⟨Nat.zero_le _, Nat.zero_le _⟩ (st1 := []) (Nat.le_of_ble_eq_true rfl) dX12_read_121 (fun r2 w1 v3 h => ?_)
      obtain ⟨ht, hf⟩ := h
      refine V_if_ne X (tgt := 134) dX12_read_124 (by decide) (fun c => ?_) (fun c => ?_)
      · have h := ht c
        refine V_sub X (ls1 := [(0, .ref (ad 150))]) [0] rfl ?_
        exact v_12_read_b134 X hr hZ _ _ h
      · have h := hf c
        refine V_aload_n X (i := 0) 0 dX12_read_127 rfl rfl ?_
        refine K_12_tellOne X (Or.inl q_1474) hZ h ⟨Nat.le_of_ble_eq_true rfl, Nat.le_of_ble_eq_true rfl⟩ ⟨Nat.zero_le _, Nat.zero_le _⟩ (st1 := []) (Nat.le_of_ble_eq_true rfl) dX12_read_128 (fun w4 v5 h => ?_)
        refine V_goto X (tgt := 112) dX12_read_131 (by decide) ?_
        refine V_sub X (ls1 := [(0, .ref (ad 150))]) [0] rfl ?_
        exact ih _ _ h
set_option maxRecDepth 20000 in
theorem v_12_read_b10 (X : CXq p s m args meth c cX12_read 2 yX12_read.cls ad cy D (AW ad) s.heap) (hr : meth.sig.returnType = (some .int)) (hZ : ad 1000 = 189) {Q : Int32 → Mem → MemL → Prop} : ∀ (n : Nat) (l1 : Int32) (w : Mem) (wl : MemL), wp_12_read_b10 Q n l1 w wl → V p l e (RM 7) s m args below meth c 2 ad cy D (AW ad) s.heap 0 0 (MQ below (va_Qi (fun r (u : Mem × MemL) => Q r u.1 u.2) (BM ad cy D wc) (AW ad)) args s 0 0 (AW ad)) wc w wl 10 [(0, .ref (ad 150)), (1, .int l1)] [] := by
  intro n
  induction n with
  | zero =>
    intro l1 w wl h
    exact h.elim
  | succ n ih =>
    intro l1 w wl h
    unfold wp_12_read_b10 at h
    refine V_iload_n X (i := 1) 1 dX12_read_10 rfl rfl ?_
    refine V_aload_n X (i := 0) 0 dX12_read_11 rfl rfl ?_
    refine G_12_157 X hZ dX12_read_12 ?_
    obtain ⟨ht, hf⟩ := h
    refine V_icmp_ge X (tgt := 36) dX12_read_15 (by decide) (fun c => ?_) (fun c => ?_)
    · have h := ht c
      refine V_aload_n X (i := 0) 0 dX12_read_36 rfl rfl ?_
      refine V_iconst X (v := (0 : Int32)) dX12_read_37 (by decide) ?_
      obtain ⟨w1, ew1⟩ : ∃ y : Mem, y = st w 150 2 (0 : Int32) := ⟨_, rfl⟩
      have h := h w1 ew1
      refine U_12_151 X hZ rfl rfl dX12_read_38 ew1 ?_
      refine V_aload_n X (i := 0) 0 dX12_read_41 rfl rfl ?_
      refine K_12_cut X (Or.inl q_1448) hZ h ⟨Nat.le_of_ble_eq_true rfl, Nat.le_of_ble_eq_true rfl⟩ ⟨Nat.zero_le _, Nat.zero_le _⟩ (st1 := []) (Nat.le_of_ble_eq_true rfl) dX12_read_42 (fun w2 v3 h => ?_)
      refine V_aload_n X (i := 0) 0 dX12_read_45 rfl rfl ?_
      refine V_iconst X (v := (0 : Int32)) dX12_read_46 (by decide) ?_
      obtain ⟨w4, ew4⟩ : ∃ y : Mem, y = st w2 150 11 (0 : Int32) := ⟨_, rfl⟩
      have h := h w4 ew4
      refine U_12_191 X hZ rfl rfl dX12_read_47 ew4 ?_
      refine V_aload_n X (i := 0) 0 dX12_read_50 rfl rfl ?_
      refine V_iconst X (v := (0 : Int32)) dX12_read_51 (by decide) ?_
      obtain ⟨w5, ew5⟩ : ∃ y : Mem, y = st w4 150 12 (0 : Int32) := ⟨_, rfl⟩
      have h := h w5 ew5
      refine U_12_215 X hZ rfl rfl dX12_read_52 ew5 ?_
      refine V_aload_n X (i := 0) 0 dX12_read_55 rfl rfl ?_
      refine V_iconst X (v := (0 : Int32)) dX12_read_56 (by decide) ?_
      obtain ⟨w6, ew6⟩ : ∃ y : Mem, y = st w5 150 13 (0 : Int32) := ⟨_, rfl⟩
      have h := h w6 ew6
      refine U_12_188 X hZ rfl rfl dX12_read_57 ew6 ?_
      refine V_aload_n X (i := 0) 0 dX12_read_60 rfl rfl ?_
      refine V_iconst X (v := (0 : Int32)) dX12_read_61 (by decide) ?_
      obtain ⟨w7, ew7⟩ : ∃ y : Mem, y = st w6 150 15 (0 : Int32) := ⟨_, rfl⟩
      have h := h w7 ew7
      refine U_12_197 X hZ rfl rfl dX12_read_62 ew7 ?_
      refine V_aload_n X (i := 0) 0 dX12_read_65 rfl rfl ?_
      refine V_iconst X (v := (1 : Int32)) dX12_read_66 (by decide) ?_
      refine V_aload_n X (i := 0) 0 dX12_read_67 rfl rfl ?_
      refine G_12_218 X hZ dX12_read_68 ?_
      refine V_isub X dX12_read_71 ?_
      obtain ⟨w8, ew8⟩ : ∃ y : Mem, y = st w7 150 19 ((1 : Int32) - (w7 150 18)) := ⟨_, rfl⟩
      have h := h w8 ew8
      refine U_12_221 X hZ rfl rfl dX12_read_72 ew8 ?_
      refine V_aload_n X (i := 0) 0 dX12_read_75 rfl rfl ?_
      refine V_iconst X (v := (0 : Int32)) dX12_read_76 (by decide) ?_
      obtain ⟨w9, ew9⟩ : ∃ y : Mem, y = st w8 150 20 (0 : Int32) := ⟨_, rfl⟩
      have h := h w9 ew9
      refine U_12_224 X hZ rfl rfl dX12_read_77 ew9 ?_
      refine V_aload_n X (i := 0) 0 dX12_read_80 rfl rfl ?_
      refine V_aload_n X (i := 0) 0 dX12_read_81 rfl rfl ?_
      refine G_12_221 X hZ dX12_read_82 ?_
      refine K_12_plain X (Or.inl q_1188) hZ h ⟨Nat.le_of_ble_eq_true rfl, Nat.le_of_ble_eq_true rfl⟩ ⟨Nat.zero_le _, Nat.zero_le _⟩ (st1 := []) (Nat.le_of_ble_eq_true rfl) dX12_read_85 (fun w10 v11 h => ?_)
      refine V_aload_n X (i := 0) 0 dX12_read_88 rfl rfl ?_
      refine V_sipush X (v := (130 : Int32)) dX12_read_89 (by decide) ?_
      refine V_aload_n X (i := 0) 0 dX12_read_92 rfl rfl ?_
      refine G_12_221 X hZ dX12_read_93 ?_
      refine V_imul X dX12_read_96 ?_
      obtain ⟨w12, ew12⟩ : ∃ y : Mem, y = st w10 150 33 ((130 : Int32) * (w10 150 19)) := ⟨_, rfl⟩
      have h := h w12 ew12
      refine U_12_227 X hZ rfl rfl dX12_read_97 ew12 ?_
      refine V_aload_n X (i := 0) 0 dX12_read_100 rfl rfl ?_
      refine V_sipush X (v := (420 : Int32)) dX12_read_101 (by decide) ?_
      refine V_aload_n X (i := 0) 0 dX12_read_104 rfl rfl ?_
      refine G_12_221 X hZ dX12_read_105 ?_
      refine V_imul X dX12_read_108 ?_
      obtain ⟨w13, ew13⟩ : ∃ y : Mem, y = st w12 150 39 ((420 : Int32) * (w12 150 19)) := ⟨_, rfl⟩
      have h := h w13 ew13
      refine U_12_230 X hZ rfl rfl dX12_read_109 ew13 ?_
      refine V_sub X (ls1 := [(0, .ref (ad 150))]) [0] rfl ?_
      obtain ⟨nn, h⟩ := h
      exact v_12_read_b112 X hr hZ nn _ _ h
    · have h := hf c
      refine V_aload_n X (i := 0) 0 dX12_read_18 rfl rfl ?_
      refine G_12_17 X hZ dX12_read_19 ?_
      refine V_iload_n X (i := 1) 1 dX12_read_22 rfl rfl ?_
      refine V_aload_n X (i := 0) 0 dX12_read_23 rfl rfl ?_
      refine G_12_13 X hZ dX12_read_24 ?_
      refine V_iload_n X (i := 1) 1 dX12_read_27 rfl rfl ?_
      obtain ⟨g14, h⟩ := h
      refine V_bald_m X (rfl : SLq 151 = 2000) (hzk hZ (by decide)) (rfl : SK 151 = 13) g14 dX12_read_28 ?_
      obtain ⟨g15, h⟩ := h
      obtain ⟨w16, ew16⟩ : ∃ y : Mem, y = st w 152 (ix l1) (vp_nar .byte (w 151 (ix l1))) := ⟨_, rfl⟩
      have h := h w16 ew16
      refine V_bast_m X (rfl : SLq 152 = 2000) (hzk hZ (by decide)) (rfl : SK 152 = 13) g15 dX12_read_29 ew16 ?_
      obtain ⟨x17, ex17⟩ : ∃ y : Int32, y = l1 + (1 : Int32) := ⟨_, rfl⟩
      have h := h x17 ex17
      refine V_iinc X 1 dX12_read_30 rfl (by decide) (by rw [ex17]; rfl) (ls1 := [(1, .int x17), (0, .ref (ad 150))]) rfl ?_
      refine V_goto X (tgt := 10) dX12_read_33 (by decide) ?_
      refine V_sub X (ls1 := [(0, .ref (ad 150)), (1, .int x17)]) [1, 0] rfl ?_
      exact ih _ _ _ h
set_option maxRecDepth 20000 in
theorem v_12_read (X : CXq p s m args meth c cX12_read 2 yX12_read.cls ad cy D (AW ad) s.heap) (hr : meth.sig.returnType = (some .int)) (hZ : ad 1000 = 189) {w : Mem} {wl : MemL} {Q : Int32 → Mem → MemL → Prop} (h : wp_12_read w wl Q) : V p l e (RM 7) s m args below meth c 2 ad cy D (AW ad) s.heap 0 0 (MQ below (va_Qi (fun r (u : Mem × MemL) => Q r u.1 u.2) (BM ad cy D wc) (AW ad)) args s 0 0 (AW ad)) wc w wl 0 [(0, .ref (ad 150))] [] := by
  unfold wp_12_read at h
  refine V_aload_n X (i := 0) 0 dX12_read_0 rfl rfl ?_
  refine V_aload_n X (i := 0) 0 dX12_read_1 rfl rfl ?_
  refine G_12_151 X hZ dX12_read_2 ?_
  obtain ⟨w1, ew1⟩ : ∃ y : Mem, y = st w 150 4 (w 150 2) := ⟨_, rfl⟩
  have h := h w1 ew1
  refine U_12_157 X hZ rfl rfl dX12_read_5 ew1 ?_
  refine V_iconst X (v := (0 : Int32)) dX12_read_8 (by decide) ?_
  refine V_istore_n X dX12_read_9 rfl (by decide) rfl (ls1 := [(1, .int (0 : Int32)), (0, .ref (ad 150))]) rfl ?_
  refine V_sub X (ls1 := [(0, .ref (ad 150)), (1, .int (0 : Int32))]) [1, 0] rfl ?_
  obtain ⟨nn, h⟩ := h
  exact v_12_read_b10 X hr hZ nn _ _ _ h
theorem c_12_read (hinj : INJ ad) (hZ : ad 1000 = 189) {w : Mem} {wl : MemL} {Q : Int32 → Mem → MemL → Prop} (h : wp_12_read w wl Q) : Met l yX12_read (TBq yX12_read cX12_read 2 (some .int)) (RM 7) (va_Pc [.ref (ad 150)] (PB ad cy D (cmb wc w) wl)) (va_Qi (fun r (u : Mem × MemL) => Q r u.1 u.2) (BM ad cy D wc) (AW ad)) 0 0 (AW ad) := M_enter (by decide) (Nat.le_of_ble_eq_true rfl) hinj (fun p e s m args below meth c X hr => v_12_read X hr hZ h)
theorem mf_12_read : MFV yX12_read cX12_read 2 (some .int) yX12_read.cls 0 := ⟨q_1447, q_1445, q_1446, q_14, by decide⟩
theorem K_12_read {own : String} {idx : Nat} (X : CXq p s m args meth c cc nL own ad cy D A H0) (hL : LK own idx yX12_read) (hZ : ad 1000 = 189) {w : Mem} {wl : MemL} {Q : Int32 → Mem → MemL → Prop} (h : wp_12_read w wl Q) (hR : (RM 7).frames + 1 ≤ R.frames ∧ 8 + (2 + 11) + (RM 7).locals ≤ R.locals) (hce : ce ≤ R.cells ∧ sl ≤ R.slots) (hcat : (st1.map fun v => v.category).sum ≤ 8) (hd : decode cc pc = .ok (.invokevirtual idx, 3)) (kk : ∀ (r : Int32) (u : Mem) (v : MemL), Q r u v → V p l e R s m args below meth c nL ad cy D A H0 ce sl Qs wc u v (pc + 3) ls (.int r :: st1)) : V p l e R s m args below meth c nL ad cy D A H0 ce sl Qs wc w wl pc ls (.ref (ad 150) :: st1) := V_callVI_m X mf_12_read hL (rfl : vwCl[12]? = some (RX12, TX12, 72)) (by decide) (rfl : SK 150 = 12) (hzk hZ (by decide)).2 (c_12_read X.2.2.2.2.2.2.2.1 hZ h) (As := []) rfl ⟨rfl, rfl⟩ hR hce st1 rfl hcat hd kk
set_option maxRecDepth 20000 in
theorem v_12_place (X : CXq p s m args meth c cX12_place 1 yX12_place.cls ad cy D (AW ad) s.heap) (hr : meth.sig.returnType = (some .int)) (hZ : ad 1000 = 189) {w : Mem} {wl : MemL} {Q : Int32 → Mem → MemL → Prop} (h : wp_12_place w wl Q) : V p l e (RM 0) s m args below meth c 1 ad cy D (AW ad) s.heap 0 0 (MQ below (va_Qi (fun r (u : Mem × MemL) => Q r u.1 u.2) (BM ad cy D wc) (AW ad)) args s 0 0 (AW ad)) wc w wl 0 [(0, .ref (ad 150))] [] := by
  unfold wp_12_place at h
  refine V_aload_n X (i := 0) 0 dX12_place_0 rfl rfl ?_
  refine G_12_37 X hZ dX12_place_1 ?_
  exact V_iret_m X hr dX12_place_4 h
theorem c_12_place (hinj : INJ ad) (hZ : ad 1000 = 189) {w : Mem} {wl : MemL} {Q : Int32 → Mem → MemL → Prop} (h : wp_12_place w wl Q) : Met l yX12_place (TBq yX12_place cX12_place 1 (some .int)) (RM 0) (va_Pc [.ref (ad 150)] (PB ad cy D (cmb wc w) wl)) (va_Qi (fun r (u : Mem × MemL) => Q r u.1 u.2) (BM ad cy D wc) (AW ad)) 0 0 (AW ad) := M_enter (by decide) (Nat.le_of_ble_eq_true rfl) hinj (fun p e s m args below meth c X hr => v_12_place X hr hZ h)
theorem mf_12_place : MFV yX12_place cX12_place 1 (some .int) yX12_place.cls 0 := ⟨q_1541, q_1539, q_1540, q_14, by decide⟩
theorem K_12_place {own : String} {idx : Nat} (X : CXq p s m args meth c cc nL own ad cy D A H0) (hL : LK own idx yX12_place) (hZ : ad 1000 = 189) {w : Mem} {wl : MemL} {Q : Int32 → Mem → MemL → Prop} (h : wp_12_place w wl Q) (hR : (RM 0).frames + 1 ≤ R.frames ∧ 8 + (1 + 11) + (RM 0).locals ≤ R.locals) (hce : ce ≤ R.cells ∧ sl ≤ R.slots) (hcat : (st1.map fun v => v.category).sum ≤ 8) (hd : decode cc pc = .ok (.invokevirtual idx, 3)) (kk : ∀ (r : Int32) (u : Mem) (v : MemL), Q r u v → V p l e R s m args below meth c nL ad cy D A H0 ce sl Qs wc u v (pc + 3) ls (.int r :: st1)) : V p l e R s m args below meth c nL ad cy D A H0 ce sl Qs wc w wl pc ls (.ref (ad 150) :: st1) := V_callVI_m X mf_12_place hL (rfl : vwCl[12]? = some (RX12, TX12, 72)) (by decide) (rfl : SK 150 = 12) (hzk hZ (by decide)).2 (c_12_place X.2.2.2.2.2.2.2.1 hZ h) (As := []) rfl ⟨rfl, rfl⟩ hR hce st1 rfl hcat hd kk
end
