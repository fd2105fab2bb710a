-- printed by wip/whole/gen6.py out of the decode rows and the tables
section
variable {p : Program} {l : Launch} {e : Env} {R : Room} {s : State} {m : MethodId} {args : Array Value} {below : List Frame} {meth : Method} {c : Code} {cc : ByteArray} {nL : Nat} {ad : Nat → Nat} {cy : Nat → ClassId} {D : va_G} {A : Nat → Prop} {H0 : Heap} {ce sl : Nat} {Qs : State → Prop} {wc wm : Mem} {wl0 : MemL} {pc : Nat} {ls : List (Nat × Value)} {st1 : List Value}
set_option maxRecDepth 20000 in
theorem v_2_set {k : Nat} {a1 : Int32} {a2 : Int32} (X : CXq p s m args meth c cX2_set 3 yX2_set.cls ad cy D (AW ad) s.heap) (hr : meth.sig.returnType = none) (hk : isLaw k) {w : Mem} {Q : Mem → Prop} (h : wp_2_set k a1 a2 w Q) : V p l e (RM 0) s m args below meth c 3 ad cy D (AW ad) s.heap 0 0 (MQ below (va_Qv Q (BC ad cy D wm wl0) (AW ad)) args s 0 0 (AW ad)) w wm wl0 0 [(0, .ref (ad k)), (1, .int a1), (2, .int a2)] [] := by
  unfold wp_2_set at h
  refine V_iload_n X (i := 1) 1 dX2_set_0 rfl rfl ?_
  obtain ⟨ht, hf⟩ := h
  refine V_if_lt X (tgt := 20) dX2_set_1 (by decide) (fun c => ?_) (fun c => ?_)
  · have h := ht c
    exact V_vret_c X hr dX2_set_20 h
  · have h := hf c
    refine V_iload_n X (i := 1) 1 dX2_set_4 rfl rfl ?_
    refine V_aload_n X (i := 0) 0 dX2_set_5 rfl rfl ?_
    refine G_2_21 X (hk).1 (hk).2.1 (Law_r3 hk) dX2_set_6 ?_
    refine V_alenL_c X (v := (11 : Int32)) ((Law_s3 hk)).2.1 ((Law_s3 hk)).2.2 (by decide) ((Law_s3 hk)).1 (by decide) dX2_set_9 ?_
    obtain ⟨ht, hf⟩ := h
    refine V_icmp_ge X (tgt := 20) dX2_set_10 (by decide) (fun c => ?_) (fun c => ?_)
    · have h := ht c
      exact V_vret_c X hr dX2_set_20 h
    · have h := hf c
      refine V_aload_n X (i := 0) 0 dX2_set_13 rfl rfl ?_
      refine G_2_21 X (hk).1 (hk).2.1 (Law_r3 hk) dX2_set_14 ?_
      refine V_iload_n X (i := 1) 1 dX2_set_17 rfl rfl ?_
      refine V_iload_n X (i := 2) 2 dX2_set_18 rfl rfl ?_
      obtain ⟨g1, h⟩ := h
      obtain ⟨w2, ew2⟩ : ∃ y : Mem, y = st w (k + 4) (ix a1) a2 := ⟨_, rfl⟩
      have h := h w2 ew2
      refine V_iast_c X ((Law_s3 hk)).2.1 ((Law_s3 hk)).2.2 ((Law_s3 hk)).1 g1 dX2_set_19 ew2 ?_
      exact V_vret_c X hr dX2_set_20 h
theorem c_2_set {k : Nat} {a1 : Int32} {a2 : Int32} (hinj : INJ ad) (hk : isLaw k) {w : Mem} {Q : Mem → Prop} (h : wp_2_set k a1 a2 w Q) : Met l yX2_set (TBq yX2_set cX2_set 3 none) (RM 0) (va_Pc [.ref (ad k), .int a1, .int a2] (PB ad cy D (cmb w wm) wl0)) (va_Qv Q (BC ad cy D wm wl0) (AW ad)) 0 0 (AW ad) := M_enter (by decide) (Nat.le_of_ble_eq_true rfl) hinj (fun p e s m args below meth c X hr => v_2_set X hr hk h)
theorem mf_2_set : MFV yX2_set cX2_set 3 none yX2_set.cls 2 := ⟨q_794, q_792, q_793, q_6, by decide⟩
theorem K_2_set {own : String} {idx : Nat} {k : Nat} {a1 : Int32} {a2 : Int32} (X : CXq p s m args meth c cc nL own ad cy D A H0) (hL : LK own idx yX2_set) (hk : isLaw k) {w : Mem} {Q : Mem → Prop} (h : wp_2_set k a1 a2 w Q) (hR : (RM 0).frames + 1 ≤ R.frames ∧ 8 + (3 + 11) + (RM 0).locals ≤ R.locals) (hce : ce ≤ R.cells ∧ sl ≤ R.slots) (hcat : (st1.map fun v => v.category).sum ≤ 8) (hd : decode cc pc = .ok (.invokevirtual idx, 3)) (kk : ∀ (u : Mem), Q u → V p l e R s m args below meth c nL ad cy D A H0 ce sl Qs u wm wl0 (pc + 3) ls st1) : V p l e R s m args below meth c nL ad cy D A H0 ce sl Qs w wm wl0 pc ls (.int a2 :: .int a1 :: .ref (ad k) :: st1) := V_callVV_c X mf_2_set hL (rfl : vwCl[2]? = some (RX2, TX2, 8)) (by decide) (hk).1 (Nat.lt_of_lt_of_le (hk).2.1 (CX_nn X)) (c_2_set X.2.2.2.2.2.2.2.1 hk h) (As := [.int a1, .int a2]) rfl ⟨rfl, rfl⟩ hR hce st1 rfl hcat hd kk
set_option maxRecDepth 20000 in
theorem v_0_mixed {a1 : Int32} {a2 : Int32} (X : CXq p s m args meth c cX0_mixed 3 yX0_mixed.cls ad cy D (AW ad) s.heap) (hr : meth.sig.returnType = (some .int)) {w : Mem} {Q : Int32 → Mem → Prop} (h : wp_0_mixed a1 a2 w Q) : V p l e (RM 0) s m args below meth c 3 ad cy D (AW ad) s.heap 0 0 (MQ below (va_Qi Q (BC ad cy D wm wl0) (AW ad)) args s 0 0 (AW ad)) w wm wl0 0 [(0, .int a1), (1, .int a2)] [] := by
  unfold wp_0_mixed at h
  refine V_iload_n X (i := 0) 0 dX0_mixed_0 rfl rfl ?_
  refine V_iload_n X (i := 1) 1 dX0_mixed_1 rfl rfl ?_
  refine V_ixor X dX0_mixed_2 ?_
  refine V_ldc X (v := (1103515245 : Int32)) dX0_mixed_3 q_802 ?_
  refine V_imul X dX0_mixed_5 ?_
  refine V_sipush X (v := (12345 : Int32)) dX0_mixed_6 (by decide) ?_
  refine V_iadd X dX0_mixed_9 ?_
  obtain ⟨x1, ex1⟩ : ∃ y : Int32, y = (((a1 ^^^ a2) * (1103515245 : Int32)) + (12345 : Int32)) := ⟨_, rfl⟩
  have h := h x1 ex1
  refine V_istore_n X dX0_mixed_10 rfl (by decide) ex1 (ls1 := [(2, .int x1), (0, .int a1), (1, .int a2)]) rfl ?_
  refine V_iload_n X (i := 2) 0 dX0_mixed_11 rfl rfl ?_
  refine V_iload_n X (i := 2) 0 dX0_mixed_12 rfl rfl ?_
  refine V_bipush X (v := (15 : Int32)) dX0_mixed_13 (by decide) ?_
  refine V_iushr X dX0_mixed_15 ?_
  refine V_ixor X dX0_mixed_16 ?_
  exact V_iret_c X hr dX0_mixed_17 h
theorem c_0_mixed {a1 : Int32} {a2 : Int32} (hinj : INJ ad) {w : Mem} {Q : Int32 → Mem → Prop} (h : wp_0_mixed a1 a2 w Q) : Met l yX0_mixed (TBq yX0_mixed cX0_mixed 3 (some .int)) (RM 0) (va_Pc [.int a1, .int a2] (PB ad cy D (cmb w wm) wl0)) (va_Qi Q (BC ad cy D wm wl0) (AW ad)) 0 0 (AW ad) := M_enter (by decide) (Nat.le_of_ble_eq_true rfl) hinj (fun p e s m args below meth c X hr => v_0_mixed X hr h)
theorem mf_0_mixed : MFS yX0_mixed cX0_mixed 3 (some .int) 2 := ⟨q_801, q_800, q_8, by decide⟩
theorem K_0_mixed {own : String} {idx : Nat} {a1 : Int32} {a2 : Int32} (X : CXq p s m args meth c cc nL own ad cy D A H0) (hL : LK own idx yX0_mixed) {w : Mem} {Q : Int32 → Mem → Prop} (h : wp_0_mixed a1 a2 w Q) (hR : (RM 0).frames + 1 ≤ R.frames ∧ 8 + (3 + 11) + (RM 0).locals ≤ R.locals) (hce : ce ≤ R.cells ∧ sl ≤ R.slots) (hcat : (st1.map fun v => v.category).sum ≤ 8) (hd : decode cc pc = .ok (.invokestatic idx, 3)) (kk : ∀ (r : Int32) (u : Mem), Q r u → V p l e R s m args below meth c nL ad cy D A H0 ce sl Qs u wm wl0 (pc + 3) ls (.int r :: st1)) : V p l e R s m args below meth c nL ad cy D A H0 ce sl Qs w wm wl0 pc ls (.int a2 :: .int a1 :: st1) := V_callSI_c X mf_0_mixed hL (c_0_mixed X.2.2.2.2.2.2.2.1 h) (As := [.int a1, .int a2]) rfl ⟨rfl, rfl⟩ hR hce st1 rfl hcat hd kk
set_option maxRecDepth 20000 in
theorem v_0_lot {a1 : Int32} {a2 : Int32} (X : CXq p s m args meth c cX0_lot 4 yX0_lot.cls ad cy D (AW ad) s.heap) (hr : meth.sig.returnType = (some .int)) {w : Mem} {Q : Int32 → Mem → Prop} (h : wp_0_lot a1 a2 w Q) : V p l e (RM 1) s m args below meth c 4 ad cy D (AW ad) s.heap 0 0 (MQ below (va_Qi Q (BC ad cy D wm wl0) (AW ad)) args s 0 0 (AW ad)) w wm wl0 0 [(0, .ref (ad 87)), (1, .int a1), (2, .int a2)] [] := by
  unfold wp_0_lot at h
  refine V_iload_n X (i := 1) 1 dX0_lot_0 rfl rfl ?_
  refine V_iconst X (v := (1 : Int32)) dX0_lot_1 (by decide) ?_
  obtain ⟨ht, hf⟩ := h
  refine V_icmp_gt X (tgt := 7) dX0_lot_2 (by decide) (fun c => ?_) (fun c => ?_)
  · have h := ht c
    refine V_aload_n X (i := 0) 0 dX0_lot_7 rfl rfl ?_
    refine G_0_150 X dX0_lot_8 ?_
    refine V_bipush X (v := (47 : Int32)) dX0_lot_11 (by decide) ?_
    refine K_0_mixed X (Or.inl q_799) h ⟨Nat.le_of_ble_eq_true rfl, Nat.le_of_ble_eq_true rfl⟩ ⟨Nat.zero_le _, Nat.zero_le _⟩ (st1 := []) (Nat.le_of_ble_eq_true rfl) dX0_lot_13 (fun r2 w1 h => ?_)
    refine V_iload_n X (i := 2) 2 dX0_lot_16 rfl rfl ?_
    refine K_0_mixed X (Or.inl q_799) h ⟨Nat.le_of_ble_eq_true rfl, Nat.le_of_ble_eq_true rfl⟩ ⟨Nat.zero_le _, Nat.zero_le _⟩ (st1 := []) (Nat.le_of_ble_eq_true rfl) dX0_lot_17 (fun r4 w3 h => ?_)
    refine V_istore_n X dX0_lot_20 rfl (by decide) rfl (ls1 := [(3, .int r4), (0, .ref (ad 87)), (1, .int a1), (2, .int a2)]) rfl ?_
    refine V_iload_n X (i := 3) 0 dX0_lot_21 rfl rfl ?_
    refine V_iconst X (v := (1 : Int32)) dX0_lot_22 (by decide) ?_
    refine V_iushr X dX0_lot_23 ?_
    refine V_iload_n X (i := 1) 2 dX0_lot_24 rfl rfl ?_
    obtain ⟨g5, h⟩ := h
    refine V_irem X dX0_lot_25 g5 ?_
    exact V_iret_c X hr dX0_lot_26 h
  · have h := hf c
    refine V_iconst X (v := (0 : Int32)) dX0_lot_5 (by decide) ?_
    exact V_iret_c X hr dX0_lot_6 h
theorem c_0_lot {a1 : Int32} {a2 : Int32} (hinj : INJ ad) {w : Mem} {Q : Int32 → Mem → Prop} (h : wp_0_lot a1 a2 w Q) : Met l yX0_lot (TBq yX0_lot cX0_lot 4 (some .int)) (RM 1) (va_Pc [.ref (ad 87), .int a1, .int a2] (PB ad cy D (cmb w wm) wl0)) (va_Qi Q (BC ad cy D wm wl0) (AW ad)) 0 0 (AW ad) := M_enter (by decide) (Nat.le_of_ble_eq_true rfl) hinj (fun p e s m args below meth c X hr => v_0_lot X hr h)
theorem mf_0_lot : MFV yX0_lot cX0_lot 4 (some .int) yX0_lot.cls 2 := ⟨q_798, q_797, qs_21, q_8, by decide⟩
theorem K_0_lot {own : String} {idx : Nat} {a1 : Int32} {a2 : Int32} (X : CXq p s m args meth c cc nL own ad cy D A H0) (hL : LK own idx yX0_lot) {w : Mem} {Q : Int32 → Mem → Prop} (h : wp_0_lot a1 a2 w Q) (hR : (RM 1).frames + 1 ≤ R.frames ∧ 8 + (4 + 11) + (RM 1).locals ≤ R.locals) (hce : ce ≤ R.cells ∧ sl ≤ R.slots) (hcat : (st1.map fun v => v.category).sum ≤ 8) (hd : decode cc pc = .ok (.invokevirtual idx, 3)) (kk : ∀ (r : Int32) (u : Mem), Q r u → V p l e R s m args below meth c nL ad cy D A H0 ce sl Qs u wm wl0 (pc + 3) ls (.int r :: st1)) : V p l e R s m args below meth c nL ad cy D A H0 ce sl Qs w wm wl0 pc ls (.int a2 :: .int a1 :: .ref (ad 87) :: st1) := V_callVI_c X mf_0_lot hL (rfl : vwCl[0]? = some (RX0, TX0, 8)) (by decide) (rfl : SK 87 = 0) (Nat.lt_of_lt_of_le (by decide : 87 < 150) (CX_nn X)) (c_0_lot X.2.2.2.2.2.2.2.1 h) (As := [.int a1, .int a2]) rfl ⟨rfl, rfl⟩ hR hce st1 rfl hcat hd kk
set_option maxRecDepth 20000 in
theorem v_2_joined {k : Nat} {a1 : Int32} {a2 : Int32} {a3 : Int32} (X : CXq p s m args meth c cX2_joined 4 yX2_joined.cls ad cy D (AW ad) s.heap) (hr : meth.sig.returnType = (some .int)) (hk : isLaw k) {w : Mem} {Q : Int32 → Mem → Prop} (h : wp_2_joined k a1 a2 a3 w Q) : V p l e (RM 0) s m args below meth c 4 ad cy D (AW ad) s.heap 0 0 (MQ below (va_Qi Q (BC ad cy D wm wl0) (AW ad)) args s 0 0 (AW ad)) w wm wl0 0 [(0, .ref (ad k)), (1, .int a1), (2, .int a2), (3, .int a3)] [] := by
  unfold wp_2_joined at h
  refine V_iload_n X (i := 1) 1 dX2_joined_0 rfl rfl ?_
  obtain ⟨ht, h⟩ := h
  by_cases c0 : a1 = (42 : Int32)
  · have h := ht c0
    refine V_tableIn X (tgt := 40) dX2_joined_1 (by rw [c0]; decide) (by rw [c0]; decide) (off := 39) (by rw [c0]; decide) (by decide) ?_
    refine V_iload_n X (i := 2) 2 dX2_joined_40 rfl rfl ?_
    refine V_iload_n X (i := 3) 3 dX2_joined_41 rfl rfl ?_
    refine V_imul X dX2_joined_42 ?_
    exact V_iret_c X hr dX2_joined_43 h
  have h := h c0
  obtain ⟨ht, h⟩ := h
  by_cases c1 : a1 = (43 : Int32)
  · have h := ht c1
    refine V_tableIn X (tgt := 32) dX2_joined_1 (by rw [c1]; decide) (by rw [c1]; decide) (off := 31) (by rw [c1]; decide) (by decide) ?_
    refine V_iload_n X (i := 2) 2 dX2_joined_32 rfl rfl ?_
    refine V_iload_n X (i := 3) 3 dX2_joined_33 rfl rfl ?_
    refine V_iadd X dX2_joined_34 ?_
    exact V_iret_c X hr dX2_joined_35 h
  have h := h c1
  obtain ⟨ht, h⟩ := h
  by_cases c3 : a1 = (45 : Int32)
  · have h := ht c3
    refine V_tableIn X (tgt := 36) dX2_joined_1 (by rw [c3]; decide) (by rw [c3]; decide) (off := 35) (by rw [c3]; decide) (by decide) ?_
    refine V_iload_n X (i := 2) 2 dX2_joined_36 rfl rfl ?_
    refine V_iload_n X (i := 3) 3 dX2_joined_37 rfl rfl ?_
    refine V_isub X dX2_joined_38 ?_
    exact V_iret_c X hr dX2_joined_39 h
  have h := h c3
  by_cases cO : a1.toInt < 42 ∨ 45 < a1.toInt
  · refine V_tableOut X (tgt := 44) dX2_joined_1 cO (by decide) ?_
    refine V_iload_n X (i := 3) 3 dX2_joined_44 rfl rfl ?_
    obtain ⟨ht, hf⟩ := h
    refine V_if_ne X (tgt := 55) dX2_joined_45 (by decide) (fun c => ?_) (fun c => ?_)
    · have h := ht c
      refine V_iload_n X (i := 2) 2 dX2_joined_55 rfl rfl ?_
      refine V_iload_n X (i := 3) 3 dX2_joined_56 rfl rfl ?_
      obtain ⟨g1, h⟩ := h
      refine V_idiv X dX2_joined_57 g1 ?_
      exact V_iret_c X hr dX2_joined_58 h
    · have h := hf c
      refine V_aload_n X (i := 0) 0 dX2_joined_48 rfl rfl ?_
      refine V_iconst X (v := (1 : Int32)) dX2_joined_49 (by decide) ?_
      obtain ⟨w2, ew2⟩ : ∃ y : Mem, y = st w k 7 (1 : Int32) := ⟨_, rfl⟩
      have h := h w2 ew2
      refine U_2_41 X (hk).1 (hk).2.1 (Law_r7 hk) rfl rfl dX2_joined_50 ew2 ?_
      refine V_iconst X (v := (0 : Int32)) dX2_joined_53 (by decide) ?_
      exact V_iret_c X hr dX2_joined_54 h
  · have g1 : a1.toInt = 44 := by
      have z0 := tne c0 (z := 42) (by decide)
      have z1 := tne c1 (z := 43) (by decide)
      have z3 := tne c3 (z := 45) (by decide)
      omega
    rcases g1 with g1
    · refine V_tableIn X (tgt := 44) dX2_joined_1 (by rw [g1]; decide) (by rw [g1]; decide) (off := 43) (by rw [g1]; decide) (by decide) ?_
      refine V_iload_n X (i := 3) 3 dX2_joined_44 rfl rfl ?_
      obtain ⟨ht, hf⟩ := h
      refine V_if_ne X (tgt := 55) dX2_joined_45 (by decide) (fun c => ?_) (fun c => ?_)
      · have h := ht c
        refine V_iload_n X (i := 2) 2 dX2_joined_55 rfl rfl ?_
        refine V_iload_n X (i := 3) 3 dX2_joined_56 rfl rfl ?_
        obtain ⟨g1, h⟩ := h
        refine V_idiv X dX2_joined_57 g1 ?_
        exact V_iret_c X hr dX2_joined_58 h
      · have h := hf c
        refine V_aload_n X (i := 0) 0 dX2_joined_48 rfl rfl ?_
        refine V_iconst X (v := (1 : Int32)) dX2_joined_49 (by decide) ?_
        obtain ⟨w2, ew2⟩ : ∃ y : Mem, y = st w k 7 (1 : Int32) := ⟨_, rfl⟩
        have h := h w2 ew2
        refine U_2_41 X (hk).1 (hk).2.1 (Law_r7 hk) rfl rfl dX2_joined_50 ew2 ?_
        refine V_iconst X (v := (0 : Int32)) dX2_joined_53 (by decide) ?_
        exact V_iret_c X hr dX2_joined_54 h
theorem c_2_joined {k : Nat} {a1 : Int32} {a2 : Int32} {a3 : Int32} (hinj : INJ ad) (hk : isLaw k) {w : Mem} {Q : Int32 → Mem → Prop} (h : wp_2_joined k a1 a2 a3 w Q) : Met l yX2_joined (TBq yX2_joined cX2_joined 4 (some .int)) (RM 0) (va_Pc [.ref (ad k), .int a1, .int a2, .int a3] (PB ad cy D (cmb w wm) wl0)) (va_Qi Q (BC ad cy D wm wl0) (AW ad)) 0 0 (AW ad) := M_enter (by decide) (Nat.le_of_ble_eq_true rfl) hinj (fun p e s m args below meth c X hr => v_2_joined X hr hk h)
theorem mf_2_joined : MFV yX2_joined cX2_joined 4 (some .int) yX2_joined.cls 3 := ⟨q_814, q_813, qs_23, q_6, by decide⟩
theorem K_2_joined {own : String} {idx : Nat} {k : Nat} {a1 : Int32} {a2 : Int32} {a3 : Int32} (X : CXq p s m args meth c cc nL own ad cy D A H0) (hL : LK own idx yX2_joined) (hk : isLaw k) {w : Mem} {Q : Int32 → Mem → Prop} (h : wp_2_joined k a1 a2 a3 w Q) (hR : (RM 0).frames + 1 ≤ R.frames ∧ 8 + (4 + 11) + (RM 0).locals ≤ R.locals) (hce : ce ≤ R.cells ∧ sl ≤ R.slots) (hcat : (st1.map fun v => v.category).sum ≤ 8) (hd : decode cc pc = .ok (.invokevirtual idx, 3)) (kk : ∀ (r : Int32) (u : Mem), Q r u → V p l e R s m args below meth c nL ad cy D A H0 ce sl Qs u wm wl0 (pc + 3) ls (.int r :: st1)) : V p l e R s m args below meth c nL ad cy D A H0 ce sl Qs w wm wl0 pc ls (.int a3 :: .int a2 :: .int a1 :: .ref (ad k) :: st1) := V_callVI_c X mf_2_joined hL (rfl : vwCl[2]? = some (RX2, TX2, 8)) (by decide) (hk).1 (Nat.lt_of_lt_of_le (hk).2.1 (CX_nn X)) (c_2_joined X.2.2.2.2.2.2.2.1 hk h) (As := [.int a1, .int a2, .int a3]) rfl ⟨rfl, rfl⟩ hR hce st1 rfl hcat hd kk
set_option maxRecDepth 20000 in
theorem v_2_worth_b161 (X : CXq p s m args meth c cX2_worth 4 yX2_worth.cls ad cy D (AW ad) s.heap) (hr : meth.sig.returnType = (some .int)) {k : Nat} (hk : isLaw k) {Q : Int32 → Mem → Prop} {L42 : Int32 → Int32 → Int32 → Mem → Prop} (HL42 : ∀ (l1 : Int32) (l2 : Int32) (l3 : Int32) (w : Mem), L42 l1 l2 l3 w → V p l e (RM 1) s m args below meth c 4 ad cy D (AW ad) s.heap 0 0 (MQ below (va_Qi Q (BC ad cy D wm wl0) (AW ad)) args s 0 0 (AW ad)) w wm wl0 42 [(0, .ref (ad k)), (1, .int l1), (2, .int l2), (3, .int l3)] []) : ∀ (l1 : Int32) (l2 : Int32) (l3 : Int32) (w : Mem), wp_2_worth_b161 k Q L42 l1 l2 l3 w → V p l e (RM 1) s m args below meth c 4 ad cy D (AW ad) s.heap 0 0 (MQ below (va_Qi Q (BC ad cy D wm wl0) (AW ad)) args s 0 0 (AW ad)) w wm wl0 161 [(0, .ref (ad k)), (1, .int l1), (2, .int l2), (3, .int l3)] [] := by
  intro l1 l2 l3 w h
  unfold wp_2_worth_b161 at h
  obtain ⟨x1, ex1⟩ : ∃ y : Int32, y = l3 + (1 : Int32) := ⟨_, rfl⟩
  have h := h x1 ex1
  refine V_iinc X 3 dX2_worth_161 rfl (by decide) (by rw [ex1]; rfl) (ls1 := [(3, .int x1), (0, .ref (ad k)), (1, .int l1), (2, .int l2)]) rfl ?_
  refine V_goto X (tgt := 42) dX2_worth_164 (by decide) ?_
  refine V_sub X (ls1 := [(0, .ref (ad k)), (1, .int l1), (2, .int l2), (3, .int x1)]) [1, 2, 3, 0] rfl ?_
  exact HL42 _ _ _ _ h
set_option maxRecDepth 20000 in
theorem v_2_worth_b114 (X : CXq p s m args meth c cX2_worth 4 yX2_worth.cls ad cy D (AW ad) s.heap) (hr : meth.sig.returnType = (some .int)) {k : Nat} (hk : isLaw k) {Q : Int32 → Mem → Prop} {L42 : Int32 → Int32 → Int32 → Mem → Prop} (HL42 : ∀ (l1 : Int32) (l2 : Int32) (l3 : Int32) (w : Mem), L42 l1 l2 l3 w → V p l e (RM 1) s m args below meth c 4 ad cy D (AW ad) s.heap 0 0 (MQ below (va_Qi Q (BC ad cy D wm wl0) (AW ad)) args s 0 0 (AW ad)) w wm wl0 42 [(0, .ref (ad k)), (1, .int l1), (2, .int l2), (3, .int l3)] []) : ∀ (l1 : Int32) (l2 : Int32) (l3 : Int32) (s1 : Int32) (s2 : Int32) (w : Mem), wp_2_worth_b114 k Q L42 l1 l2 l3 s1 s2 w → V p l e (RM 1) s m args below meth c 4 ad cy D (AW ad) s.heap 0 0 (MQ below (va_Qi Q (BC ad cy D wm wl0) (AW ad)) args s 0 0 (AW ad)) w wm wl0 114 [(0, .ref (ad k)), (1, .int l1), (2, .int l2), (3, .int l3)] [.int s2, .int s1, .ref (ad (k + 5))] := by
  intro l1 l2 l3 s1 s2 w h
  unfold wp_2_worth_b114 at h
  obtain ⟨g1, h⟩ := h
  obtain ⟨w2, ew2⟩ : ∃ y : Mem, y = st w (k + 5) (ix s1) s2 := ⟨_, rfl⟩
  have h := h w2 ew2
  refine V_iast_c X ((Law_s4 hk)).2.1 ((Law_s4 hk)).2.2 ((Law_s4 hk)).1 g1 dX2_worth_114 ew2 ?_
  obtain ⟨x3, ex3⟩ : ∃ y : Int32, y = l2 + (1 : Int32) := ⟨_, rfl⟩
  have h := h x3 ex3
  refine V_iinc X 2 dX2_worth_115 rfl (by decide) (by rw [ex3]; rfl) (ls1 := [(2, .int x3), (0, .ref (ad k)), (1, .int l1), (3, .int l3)]) rfl ?_
  refine V_goto X (tgt := 161) dX2_worth_118 (by decide) ?_
  refine V_sub X (ls1 := [(0, .ref (ad k)), (1, .int l1), (2, .int x3), (3, .int l3)]) [1, 2, 0, 3] rfl ?_
  exact v_2_worth_b161 X hr hk HL42 _ _ _ _ h
set_option maxRecDepth 20000 in
theorem v_2_worth_b71 (X : CXq p s m args meth c cX2_worth 4 yX2_worth.cls ad cy D (AW ad) s.heap) (hr : meth.sig.returnType = (some .int)) {k : Nat} (hk : isLaw k) {Q : Int32 → Mem → Prop} {L42 : Int32 → Int32 → Int32 → Mem → Prop} (HL42 : ∀ (l1 : Int32) (l2 : Int32) (l3 : Int32) (w : Mem), L42 l1 l2 l3 w → V p l e (RM 1) s m args below meth c 4 ad cy D (AW ad) s.heap 0 0 (MQ below (va_Qi Q (BC ad cy D wm wl0) (AW ad)) args s 0 0 (AW ad)) w wm wl0 42 [(0, .ref (ad k)), (1, .int l1), (2, .int l2), (3, .int l3)] []) : ∀ (l1 : Int32) (l2 : Int32) (l3 : Int32) (w : Mem), wp_2_worth_b71 k Q L42 l1 l2 l3 w → V p l e (RM 1) s m args below meth c 4 ad cy D (AW ad) s.heap 0 0 (MQ below (va_Qi Q (BC ad cy D wm wl0) (AW ad)) args s 0 0 (AW ad)) w wm wl0 71 [(0, .ref (ad k)), (1, .int l1), (2, .int l2), (3, .int l3)] [] := by
  intro l1 l2 l3 w h
  unfold wp_2_worth_b71 at h
  refine V_iload_n X (i := 2) 2 dX2_worth_71 rfl rfl ?_
  refine V_aload_n X (i := 0) 0 dX2_worth_72 rfl rfl ?_
  refine G_2_24 X (hk).1 (hk).2.1 (Law_r4 hk) dX2_worth_73 ?_
  refine V_alenL_c X (v := (16 : Int32)) ((Law_s4 hk)).2.1 ((Law_s4 hk)).2.2 (by decide) ((Law_s4 hk)).1 (by decide) dX2_worth_76 ?_
  obtain ⟨ht, hf⟩ := h
  refine V_icmp_ge X (tgt := 161) dX2_worth_77 (by decide) (fun c => ?_) (fun c => ?_)
  · have h := ht c
    refine V_sub X (ls1 := [(0, .ref (ad k)), (1, .int l1), (2, .int l2), (3, .int l3)]) [0, 1, 2, 3] rfl ?_
    exact v_2_worth_b161 X hr hk HL42 _ _ _ _ h
  · have h := hf c
    refine V_aload_n X (i := 0) 0 dX2_worth_80 rfl rfl ?_
    refine G_2_24 X (hk).1 (hk).2.1 (Law_r4 hk) dX2_worth_81 ?_
    refine V_iload_n X (i := 2) 2 dX2_worth_84 rfl rfl ?_
    refine V_aload_n X (i := 0) 0 dX2_worth_85 rfl rfl ?_
    refine G_2_9 X (hk).1 (hk).2.1 (Law_r0 hk) dX2_worth_86 ?_
    refine V_iload_n X (i := 3) 3 dX2_worth_89 rfl rfl ?_
    obtain ⟨g1, h⟩ := h
    refine V_iald_c X ((Law_s0 hk)).2.1 ((Law_s0 hk)).2.2 ((Law_s0 hk)).1 g1 dX2_worth_90 ?_
    obtain ⟨ht, hf⟩ := h
    refine V_if_ne X (tgt := 103) dX2_worth_91 (by decide) (fun c => ?_) (fun c => ?_)
    · have h := ht c
      refine V_aload_n X (i := 0) 0 dX2_worth_103 rfl rfl ?_
      refine G_2_21 X (hk).1 (hk).2.1 (Law_r3 hk) dX2_worth_104 ?_
      refine V_aload_n X (i := 0) 0 dX2_worth_107 rfl rfl ?_
      refine G_2_15 X (hk).1 (hk).2.1 (Law_r1 hk) dX2_worth_108 ?_
      refine V_iload_n X (i := 3) 3 dX2_worth_111 rfl rfl ?_
      obtain ⟨g2, h⟩ := h
      refine V_iald_c X ((Law_s1 hk)).2.1 ((Law_s1 hk)).2.2 ((Law_s1 hk)).1 g2 dX2_worth_112 ?_
      obtain ⟨g3, h⟩ := h
      refine V_iald_c X ((Law_s3 hk)).2.1 ((Law_s3 hk)).2.2 ((Law_s3 hk)).1 g3 dX2_worth_113 ?_
      refine V_sub X (ls1 := [(0, .ref (ad k)), (1, .int l1), (2, .int l2), (3, .int l3)]) [0, 1, 2, 3] rfl ?_
      exact v_2_worth_b114 X hr hk HL42 _ _ _ _ _ _ h
    · have h := hf c
      refine V_aload_n X (i := 0) 0 dX2_worth_94 rfl rfl ?_
      refine G_2_15 X (hk).1 (hk).2.1 (Law_r1 hk) dX2_worth_95 ?_
      refine V_iload_n X (i := 3) 3 dX2_worth_98 rfl rfl ?_
      obtain ⟨g4, h⟩ := h
      refine V_iald_c X ((Law_s1 hk)).2.1 ((Law_s1 hk)).2.2 ((Law_s1 hk)).1 g4 dX2_worth_99 ?_
      refine V_goto X (tgt := 114) dX2_worth_100 (by decide) ?_
      refine V_sub X (ls1 := [(0, .ref (ad k)), (1, .int l1), (2, .int l2), (3, .int l3)]) [0, 1, 2, 3] rfl ?_
      exact v_2_worth_b114 X hr hk HL42 _ _ _ _ _ _ h
set_option maxRecDepth 20000 in
theorem v_2_worth_b42 (X : CXq p s m args meth c cX2_worth 4 yX2_worth.cls ad cy D (AW ad) s.heap) (hr : meth.sig.returnType = (some .int)) {k : Nat} (hk : isLaw k) {Q : Int32 → Mem → Prop} : ∀ (n : Nat) (l1 : Int32) (l2 : Int32) (l3 : Int32) (w : Mem), wp_2_worth_b42 k Q n l1 l2 l3 w → V p l e (RM 1) s m args below meth c 4 ad cy D (AW ad) s.heap 0 0 (MQ below (va_Qi Q (BC ad cy D wm wl0) (AW ad)) args s 0 0 (AW ad)) w wm wl0 42 [(0, .ref (ad k)), (1, .int l1), (2, .int l2), (3, .int l3)] [] := by
  intro n
  induction n with
  | zero =>
    intro l1 l2 l3 w h
    exact h.elim
  | succ n ih =>
    intro l1 l2 l3 w h
    unfold wp_2_worth_b42 at h
    refine V_iload_n X (i := 3) 3 dX2_worth_42 rfl rfl ?_
    refine V_aload_n X (i := 0) 0 dX2_worth_43 rfl rfl ?_
    refine G_2_18 X (hk).1 (hk).2.1 (Law_r2 hk) dX2_worth_44 ?_
    refine V_iload_n X (i := 1) 1 dX2_worth_47 rfl rfl ?_
    obtain ⟨g1, h⟩ := h
    refine V_iald_c X ((Law_s2 hk)).2.1 ((Law_s2 hk)).2.2 ((Law_s2 hk)).1 g1 dX2_worth_48 ?_
    obtain ⟨ht, hf⟩ := h
    refine V_icmp_ge X (tgt := 167) dX2_worth_49 (by decide) (fun c => ?_) (fun c => ?_)
    · have h := ht c
      refine V_iload_n X (i := 2) 2 dX2_worth_167 rfl rfl ?_
      refine V_iconst X (v := (1 : Int32)) dX2_worth_168 (by decide) ?_
      obtain ⟨ht, hf⟩ := h
      refine V_icmp_ne X (tgt := 181) dX2_worth_169 (by decide) (fun c => ?_) (fun c => ?_)
      · have h := ht c
        refine V_iconst X (v := (0 : Int32)) dX2_worth_181 (by decide) ?_
        exact V_iret_c X hr dX2_worth_182 h
      · have h := hf c
        refine V_aload_n X (i := 0) 0 dX2_worth_172 rfl rfl ?_
        refine G_2_24 X (hk).1 (hk).2.1 (Law_r4 hk) dX2_worth_173 ?_
        refine V_iconst X (v := (0 : Int32)) dX2_worth_176 (by decide) ?_
        refine V_iald_c X ((Law_s4 hk)).2.1 ((Law_s4 hk)).2.2 ((Law_s4 hk)).1 (vpl (by decide)) dX2_worth_177 ?_
        refine V_goto X (tgt := 182) dX2_worth_178 (by decide) ?_
        exact V_iret_c X hr dX2_worth_182 h
    · have h := hf c
      refine V_aload_n X (i := 0) 0 dX2_worth_52 rfl rfl ?_
      refine G_2_9 X (hk).1 (hk).2.1 (Law_r0 hk) dX2_worth_53 ?_
      refine V_iload_n X (i := 3) 3 dX2_worth_56 rfl rfl ?_
      obtain ⟨g2, h⟩ := h
      refine V_iald_c X ((Law_s0 hk)).2.1 ((Law_s0 hk)).2.2 ((Law_s0 hk)).1 g2 dX2_worth_57 ?_
      obtain ⟨ht, hf⟩ := h
      refine V_if_eq X (tgt := 71) dX2_worth_58 (by decide) (fun c => ?_) (fun c => ?_)
      · have h := ht c
        refine V_sub X (ls1 := [(0, .ref (ad k)), (1, .int l1), (2, .int l2), (3, .int l3)]) [0, 1, 2, 3] rfl ?_
        exact v_2_worth_b71 X hr hk ih _ _ _ _ h
      · have h := hf c
        refine V_aload_n X (i := 0) 0 dX2_worth_61 rfl rfl ?_
        refine G_2_9 X (hk).1 (hk).2.1 (Law_r0 hk) dX2_worth_62 ?_
        refine V_iload_n X (i := 3) 3 dX2_worth_65 rfl rfl ?_
        obtain ⟨g3, h⟩ := h
        refine V_iald_c X ((Law_s0 hk)).2.1 ((Law_s0 hk)).2.2 ((Law_s0 hk)).1 g3 dX2_worth_66 ?_
        refine V_iconst X (v := (1 : Int32)) dX2_worth_67 (by decide) ?_
        obtain ⟨ht, hf⟩ := h
        refine V_icmp_ne X (tgt := 121) dX2_worth_68 (by decide) (fun c => ?_) (fun c => ?_)
        · have h := ht c
          refine V_iload_n X (i := 2) 2 dX2_worth_121 rfl rfl ?_
          refine V_iconst X (v := (2 : Int32)) dX2_worth_122 (by decide) ?_
          obtain ⟨ht, hf⟩ := h
          refine V_icmp_lt X (tgt := 161) dX2_worth_123 (by decide) (fun c => ?_) (fun c => ?_)
          · have h := ht c
            refine V_sub X (ls1 := [(0, .ref (ad k)), (1, .int l1), (2, .int l2), (3, .int l3)]) [0, 1, 2, 3] rfl ?_
            exact v_2_worth_b161 X hr hk ih _ _ _ _ h
          · have h := hf c
            obtain ⟨x4, ex4⟩ : ∃ y : Int32, y = l2 + (-1 : Int32) := ⟨_, rfl⟩
            have h := h x4 ex4
            refine V_iinc X 2 dX2_worth_126 rfl (by decide) (by rw [ex4]; rfl) (ls1 := [(2, .int x4), (0, .ref (ad k)), (1, .int l1), (3, .int l3)]) rfl ?_
            refine V_aload_n X (i := 0) 1 dX2_worth_129 rfl rfl ?_
            refine G_2_24 X (hk).1 (hk).2.1 (Law_r4 hk) dX2_worth_130 ?_
            refine V_iload_n X (i := 2) 0 dX2_worth_133 rfl rfl ?_
            refine V_iconst X (v := (1 : Int32)) dX2_worth_134 (by decide) ?_
            refine V_isub X dX2_worth_135 ?_
            refine V_aload_n X (i := 0) 1 dX2_worth_136 rfl rfl ?_
            refine V_aload_n X (i := 0) 1 dX2_worth_137 rfl rfl ?_
            refine G_2_9 X (hk).1 (hk).2.1 (Law_r0 hk) dX2_worth_138 ?_
            refine V_iload_n X (i := 3) 3 dX2_worth_141 rfl rfl ?_
            obtain ⟨g5, h⟩ := h
            refine V_iald_c X ((Law_s0 hk)).2.1 ((Law_s0 hk)).2.2 ((Law_s0 hk)).1 g5 dX2_worth_142 ?_
            refine V_aload_n X (i := 0) 1 dX2_worth_143 rfl rfl ?_
            refine G_2_24 X (hk).1 (hk).2.1 (Law_r4 hk) dX2_worth_144 ?_
            refine V_iload_n X (i := 2) 0 dX2_worth_147 rfl rfl ?_
            refine V_iconst X (v := (1 : Int32)) dX2_worth_148 (by decide) ?_
            refine V_isub X dX2_worth_149 ?_
            obtain ⟨g6, h⟩ := h
            refine V_iald_c X ((Law_s4 hk)).2.1 ((Law_s4 hk)).2.2 ((Law_s4 hk)).1 g6 dX2_worth_150 ?_
            refine V_aload_n X (i := 0) 1 dX2_worth_151 rfl rfl ?_
            refine G_2_24 X (hk).1 (hk).2.1 (Law_r4 hk) dX2_worth_152 ?_
            refine V_iload_n X (i := 2) 0 dX2_worth_155 rfl rfl ?_
            obtain ⟨g7, h⟩ := h
            refine V_iald_c X ((Law_s4 hk)).2.1 ((Law_s4 hk)).2.2 ((Law_s4 hk)).1 g7 dX2_worth_156 ?_
            refine K_2_joined X (Or.inl q_811) hk h ⟨Nat.le_of_ble_eq_true rfl, Nat.le_of_ble_eq_true rfl⟩ ⟨Nat.zero_le _, Nat.zero_le _⟩ (st1 := [.int (x4 - (1 : Int32)), .ref (ad (k + 5))]) (Nat.le_of_ble_eq_true rfl) dX2_worth_157 (fun r9 w8 h => ?_)
            obtain ⟨g10, h⟩ := h
            obtain ⟨w11, ew11⟩ : ∃ y : Mem, y = st w8 (k + 5) (ix (x4 - (1 : Int32))) r9 := ⟨_, rfl⟩
            have h := h w11 ew11
            refine V_iast_c X ((Law_s4 hk)).2.1 ((Law_s4 hk)).2.2 ((Law_s4 hk)).1 g10 dX2_worth_160 ew11 ?_
            refine V_sub X (ls1 := [(0, .ref (ad k)), (1, .int l1), (2, .int x4), (3, .int l3)]) [1, 2, 0, 3] rfl ?_
            exact v_2_worth_b161 X hr hk ih _ _ _ _ h
        · have h := hf c
          refine V_sub X (ls1 := [(0, .ref (ad k)), (1, .int l1), (2, .int l2), (3, .int l3)]) [0, 1, 2, 3] rfl ?_
          exact v_2_worth_b71 X hr hk ih _ _ _ _ h
set_option maxRecDepth 20000 in
theorem v_2_worth_b41 (X : CXq p s m args meth c cX2_worth 4 yX2_worth.cls ad cy D (AW ad) s.heap) (hr : meth.sig.returnType = (some .int)) {k : Nat} (hk : isLaw k) {Q : Int32 → Mem → Prop} : ∀ (l1 : Int32) (l2 : Int32) (s0 : Int32) (w : Mem), wp_2_worth_b41 k Q l1 l2 s0 w → V p l e (RM 1) s m args below meth c 4 ad cy D (AW ad) s.heap 0 0 (MQ below (va_Qi Q (BC ad cy D wm wl0) (AW ad)) args s 0 0 (AW ad)) w wm wl0 41 [(0, .ref (ad k)), (1, .int l1), (2, .int l2)] [.int s0] := by
  intro l1 l2 s0 w h
  unfold wp_2_worth_b41 at h
  refine V_istore_n X dX2_worth_41 rfl (by decide) rfl (ls1 := [(3, .int s0), (0, .ref (ad k)), (1, .int l1), (2, .int l2)]) rfl ?_
  refine V_sub X (ls1 := [(0, .ref (ad k)), (1, .int l1), (2, .int l2), (3, .int s0)]) [1, 2, 3, 0] rfl ?_
  obtain ⟨nn, h⟩ := h
  exact v_2_worth_b42 X hr hk nn _ _ _ _ h
set_option maxRecDepth 20000 in
theorem v_2_worth {k : Nat} {a1 : Int32} (X : CXq p s m args meth c cX2_worth 4 yX2_worth.cls ad cy D (AW ad) s.heap) (hr : meth.sig.returnType = (some .int)) (hk : isLaw k) {w : Mem} {Q : Int32 → Mem → Prop} (h : wp_2_worth k a1 w Q) : V p l e (RM 1) s m args below meth c 4 ad cy D (AW ad) s.heap 0 0 (MQ below (va_Qi Q (BC ad cy D wm wl0) (AW ad)) args s 0 0 (AW ad)) w wm wl0 0 [(0, .ref (ad k)), (1, .int a1)] [] := by
  unfold wp_2_worth at h
  refine V_iload_n X (i := 1) 1 dX2_worth_0 rfl rfl ?_
  obtain ⟨ht, hf⟩ := h
  refine V_if_lt X (tgt := 21) dX2_worth_1 (by decide) (fun c => ?_) (fun c => ?_)
  · have h := ht c
    refine V_iconst X (v := (0 : Int32)) dX2_worth_21 (by decide) ?_
    exact V_iret_c X hr dX2_worth_22 h
  · have h := hf c
    refine V_iload_n X (i := 1) 1 dX2_worth_4 rfl rfl ?_
    refine V_aload_n X (i := 0) 0 dX2_worth_5 rfl rfl ?_
    refine G_2_31 X (hk).1 (hk).2.1 (Law_r6 hk) dX2_worth_6 ?_
    obtain ⟨ht, hf⟩ := h
    refine V_icmp_ge X (tgt := 21) dX2_worth_9 (by decide) (fun c => ?_) (fun c => ?_)
    · have h := ht c
      refine V_iconst X (v := (0 : Int32)) dX2_worth_21 (by decide) ?_
      exact V_iret_c X hr dX2_worth_22 h
    · have h := hf c
      refine V_iload_n X (i := 1) 1 dX2_worth_12 rfl rfl ?_
      refine V_aload_n X (i := 0) 0 dX2_worth_13 rfl rfl ?_
      refine G_2_18 X (hk).1 (hk).2.1 (Law_r2 hk) dX2_worth_14 ?_
      refine V_alenL_c X (v := (13 : Int32)) ((Law_s2 hk)).2.1 ((Law_s2 hk)).2.2 (by decide) ((Law_s2 hk)).1 (by decide) dX2_worth_17 ?_
      obtain ⟨ht, hf⟩ := h
      refine V_icmp_lt X (tgt := 23) dX2_worth_18 (by decide) (fun c => ?_) (fun c => ?_)
      · have h := ht c
        refine V_iconst X (v := (0 : Int32)) dX2_worth_23 (by decide) ?_
        refine V_istore_n X dX2_worth_24 rfl (by decide) rfl (ls1 := [(2, .int (0 : Int32)), (0, .ref (ad k)), (1, .int a1)]) rfl ?_
        refine V_iload_n X (i := 1) 2 dX2_worth_25 rfl rfl ?_
        obtain ⟨ht, hf⟩ := h
        refine V_if_ne X (tgt := 33) dX2_worth_26 (by decide) (fun c => ?_) (fun c => ?_)
        · have h := ht c
          refine V_aload_n X (i := 0) 1 dX2_worth_33 rfl rfl ?_
          refine G_2_18 X (hk).1 (hk).2.1 (Law_r2 hk) dX2_worth_34 ?_
          refine V_iload_n X (i := 1) 2 dX2_worth_37 rfl rfl ?_
          refine V_iconst X (v := (1 : Int32)) dX2_worth_38 (by decide) ?_
          refine V_isub X dX2_worth_39 ?_
          obtain ⟨g1, h⟩ := h
          refine V_iald_c X ((Law_s2 hk)).2.1 ((Law_s2 hk)).2.2 ((Law_s2 hk)).1 g1 dX2_worth_40 ?_
          refine V_sub X (ls1 := [(0, .ref (ad k)), (1, .int a1), (2, .int (0 : Int32))]) [1, 2, 0] rfl ?_
          exact v_2_worth_b41 X hr hk _ _ _ _ h
        · have h := hf c
          refine V_iconst X (v := (0 : Int32)) dX2_worth_29 (by decide) ?_
          refine V_goto X (tgt := 41) dX2_worth_30 (by decide) ?_
          refine V_sub X (ls1 := [(0, .ref (ad k)), (1, .int a1), (2, .int (0 : Int32))]) [1, 2, 0] rfl ?_
          exact v_2_worth_b41 X hr hk _ _ _ _ h
      · have h := hf c
        refine V_iconst X (v := (0 : Int32)) dX2_worth_21 (by decide) ?_
        exact V_iret_c X hr dX2_worth_22 h
theorem c_2_worth {k : Nat} {a1 : Int32} (hinj : INJ ad) (hk : isLaw k) {w : Mem} {Q : Int32 → Mem → Prop} (h : wp_2_worth k a1 w Q) : Met l yX2_worth (TBq yX2_worth cX2_worth 4 (some .int)) (RM 1) (va_Pc [.ref (ad k), .int a1] (PB ad cy D (cmb w wm) wl0)) (va_Qi Q (BC ad cy D wm wl0) (AW ad)) 0 0 (AW ad) := M_enter (by decide) (Nat.le_of_ble_eq_true rfl) hinj (fun p e s m args below meth c X hr => v_2_worth X hr hk h)
theorem mf_2_worth : MFV yX2_worth cX2_worth 4 (some .int) yX2_worth.cls 1 := ⟨q_810, q_809, qs_22, q_6, by decide⟩
theorem K_2_worth {own : String} {idx : Nat} {k : Nat} {a1 : Int32} (X : CXq p s m args meth c cc nL own ad cy D A H0) (hL : LK own idx yX2_worth) (hk : isLaw k) {w : Mem} {Q : Int32 → Mem → Prop} (h : wp_2_worth k a1 w Q) (hR : (RM 1).frames + 1 ≤ R.frames ∧ 8 + (4 + 11) + (RM 1).locals ≤ R.locals) (hce : ce ≤ R.cells ∧ sl ≤ R.slots) (hcat : (st1.map fun v => v.category).sum ≤ 8) (hd : decode cc pc = .ok (.invokevirtual idx, 3)) (kk : ∀ (r : Int32) (u : Mem), Q r u → V p l e R s m args below meth c nL ad cy D A H0 ce sl Qs u wm wl0 (pc + 3) ls (.int r :: st1)) : V p l e R s m args below meth c nL ad cy D A H0 ce sl Qs w wm wl0 pc ls (.int a1 :: .ref (ad k) :: st1) := V_callVI_c X mf_2_worth hL (rfl : vwCl[2]? = some (RX2, TX2, 8)) (by decide) (hk).1 (Nat.lt_of_lt_of_le (hk).2.1 (CX_nn X)) (c_2_worth X.2.2.2.2.2.2.2.1 hk h) (As := [.int a1]) rfl ⟨rfl, rfl⟩ hR hce st1 rfl hcat hd kk
set_option maxRecDepth 20000 in
theorem v_2_tells_b37 (X : CXq p s m args meth c cX2_tells 4 yX2_tells.cls ad cy D (AW ad) s.heap) (hr : meth.sig.returnType = (some .int)) {k : Nat} (hk : isLaw k) {Q : Int32 → Mem → Prop} {L7 : Int32 → Mem → Prop} (HL7 : ∀ (l1 : Int32) (w : Mem), L7 l1 w → V p l e (RM 2) s m args below meth c 4 ad cy D (AW ad) s.heap 0 0 (MQ below (va_Qi Q (BC ad cy D wm wl0) (AW ad)) args s 0 0 (AW ad)) w wm wl0 7 [(0, .ref (ad k)), (1, .int l1)] []) : ∀ (l1 : Int32) (s0 : Int32) (w : Mem), wp_2_tells_b37 k Q L7 l1 s0 w → V p l e (RM 2) s m args below meth c 4 ad cy D (AW ad) s.heap 0 0 (MQ below (va_Qi Q (BC ad cy D wm wl0) (AW ad)) args s 0 0 (AW ad)) w wm wl0 37 [(0, .ref (ad k)), (1, .int l1)] [.int s0] := by
  intro l1 s0 w h
  unfold wp_2_tells_b37 at h
  refine V_istore_n X dX2_tells_37 rfl (by decide) rfl (ls1 := [(2, .int s0), (0, .ref (ad k)), (1, .int l1)]) rfl ?_
  refine V_aload_n X (i := 0) 1 dX2_tells_38 rfl rfl ?_
  refine G_2_41 X (hk).1 (hk).2.1 (Law_r7 hk) dX2_tells_39 ?_
  obtain ⟨ht, hf⟩ := h
  refine V_if_eq X (tgt := 47) dX2_tells_42 (by decide) (fun c => ?_) (fun c => ?_)
  · have h := ht c
    refine V_iload_n X (i := 2) 0 dX2_tells_47 rfl rfl ?_
    obtain ⟨ht, hf⟩ := h
    refine V_if_eq X (tgt := 72) dX2_tells_48 (by decide) (fun c => ?_) (fun c => ?_)
    · have h := ht c
      obtain ⟨x1, ex1⟩ : ∃ y : Int32, y = l1 + (3 : Int32) := ⟨_, rfl⟩
      have h := h x1 ex1
      refine V_iinc X 2 dX2_tells_72 rfl (by decide) (by rw [ex1]; rfl) (ls1 := [(1, .int x1), (2, .int s0), (0, .ref (ad k))]) rfl ?_
      refine V_goto X (tgt := 7) dX2_tells_75 (by decide) ?_
      refine V_sub X (ls1 := [(0, .ref (ad k)), (1, .int x1)]) [2, 0] rfl ?_
      exact HL7 _ _ h
    · have h := hf c
      refine V_aload_n X (i := 0) 1 dX2_tells_51 rfl rfl ?_
      refine V_iload_n X (i := 1) 2 dX2_tells_52 rfl rfl ?_
      refine V_iconst X (v := (2 : Int32)) dX2_tells_53 (by decide) ?_
      refine V_iadd X dX2_tells_54 ?_
      refine K_2_worth X (Or.inl q_807) hk h ⟨Nat.le_of_ble_eq_true rfl, Nat.le_of_ble_eq_true rfl⟩ ⟨Nat.zero_le _, Nat.zero_le _⟩ (st1 := []) (Nat.le_of_ble_eq_true rfl) dX2_tells_55 (fun r3 w2 h => ?_)
      refine V_istore_n X dX2_tells_58 rfl (by decide) rfl (ls1 := [(3, .int r3), (2, .int s0), (0, .ref (ad k)), (1, .int l1)]) rfl ?_
      refine V_aload_n X (i := 0) 2 dX2_tells_59 rfl rfl ?_
      refine G_2_41 X (hk).1 (hk).2.1 (Law_r7 hk) dX2_tells_60 ?_
      obtain ⟨ht, hf⟩ := h
      refine V_if_eq X (tgt := 70) dX2_tells_63 (by decide) (fun c => ?_) (fun c => ?_)
      · have h := ht c
        refine V_iload_n X (i := 3) 0 dX2_tells_70 rfl rfl ?_
        exact V_iret_c X hr dX2_tells_71 h
      · have h := hf c
        refine V_iconst X (v := (0 : Int32)) dX2_tells_66 (by decide) ?_
        refine V_goto X (tgt := 71) dX2_tells_67 (by decide) ?_
        exact V_iret_c X hr dX2_tells_71 h
  · have h := hf c
    refine V_iconst X (v := (0 : Int32)) dX2_tells_45 (by decide) ?_
    exact V_iret_c X hr dX2_tells_46 h
set_option maxRecDepth 20000 in
theorem v_2_tells_b7 (X : CXq p s m args meth c cX2_tells 4 yX2_tells.cls ad cy D (AW ad) s.heap) (hr : meth.sig.returnType = (some .int)) {k : Nat} (hk : isLaw k) {Q : Int32 → Mem → Prop} : ∀ (n : Nat) (l1 : Int32) (w : Mem), wp_2_tells_b7 k Q n l1 w → V p l e (RM 2) s m args below meth c 4 ad cy D (AW ad) s.heap 0 0 (MQ below (va_Qi Q (BC ad cy D wm wl0) (AW ad)) args s 0 0 (AW ad)) w wm wl0 7 [(0, .ref (ad k)), (1, .int l1)] [] := by
  intro n
  induction n with
  | zero =>
    intro l1 w h
    exact h.elim
  | succ n ih =>
    intro l1 w h
    unfold wp_2_tells_b7 at h
    refine V_iload_n X (i := 1) 1 dX2_tells_7 rfl rfl ?_
    refine V_iconst X (v := (3 : Int32)) dX2_tells_8 (by decide) ?_
    refine V_iadd X dX2_tells_9 ?_
    refine V_aload_n X (i := 0) 0 dX2_tells_10 rfl rfl ?_
    refine G_2_31 X (hk).1 (hk).2.1 (Law_r6 hk) dX2_tells_11 ?_
    obtain ⟨ht, hf⟩ := h
    refine V_icmp_ge X (tgt := 78) dX2_tells_14 (by decide) (fun c => ?_) (fun c => ?_)
    · have h := ht c
      refine V_aload_n X (i := 0) 0 dX2_tells_78 rfl rfl ?_
      refine V_aload_n X (i := 0) 0 dX2_tells_79 rfl rfl ?_
      refine G_2_31 X (hk).1 (hk).2.1 (Law_r6 hk) dX2_tells_80 ?_
      refine V_iconst X (v := (1 : Int32)) dX2_tells_83 (by decide) ?_
      refine V_isub X dX2_tells_84 ?_
      refine K_2_worth X (Or.inl q_807) hk h ⟨Nat.le_of_ble_eq_true rfl, Nat.le_of_ble_eq_true rfl⟩ ⟨Nat.zero_le _, Nat.zero_le _⟩ (st1 := []) (Nat.le_of_ble_eq_true rfl) dX2_tells_85 (fun r2 w1 h => ?_)
      refine V_istore_n X dX2_tells_88 rfl (by decide) rfl (ls1 := [(1, .int r2), (0, .ref (ad k))]) rfl ?_
      refine V_aload_n X (i := 0) 1 dX2_tells_89 rfl rfl ?_
      refine G_2_41 X (hk).1 (hk).2.1 (Law_r7 hk) dX2_tells_90 ?_
      obtain ⟨ht, hf⟩ := h
      refine V_if_eq X (tgt := 100) dX2_tells_93 (by decide) (fun c => ?_) (fun c => ?_)
      · have h := ht c
        refine V_iload_n X (i := 1) 0 dX2_tells_100 rfl rfl ?_
        exact V_iret_c X hr dX2_tells_101 h
      · have h := hf c
        refine V_iconst X (v := (0 : Int32)) dX2_tells_96 (by decide) ?_
        refine V_goto X (tgt := 101) dX2_tells_97 (by decide) ?_
        exact V_iret_c X hr dX2_tells_101 h
    · have h := hf c
      refine V_aload_n X (i := 0) 0 dX2_tells_17 rfl rfl ?_
      refine V_iload_n X (i := 1) 1 dX2_tells_18 rfl rfl ?_
      refine K_2_worth X (Or.inl q_807) hk h ⟨Nat.le_of_ble_eq_true rfl, Nat.le_of_ble_eq_true rfl⟩ ⟨Nat.zero_le _, Nat.zero_le _⟩ (st1 := []) (Nat.le_of_ble_eq_true rfl) dX2_tells_19 (fun r4 w3 h => ?_)
      refine V_aload_n X (i := 0) 0 dX2_tells_22 rfl rfl ?_
      refine V_iload_n X (i := 1) 1 dX2_tells_23 rfl rfl ?_
      refine V_iconst X (v := (1 : Int32)) dX2_tells_24 (by decide) ?_
      refine V_iadd X dX2_tells_25 ?_
      refine K_2_worth X (Or.inl q_807) hk h ⟨Nat.le_of_ble_eq_true rfl, Nat.le_of_ble_eq_true rfl⟩ ⟨Nat.zero_le _, Nat.zero_le _⟩ (st1 := [.int r4]) (Nat.le_of_ble_eq_true rfl) dX2_tells_26 (fun r6 w5 h => ?_)
      obtain ⟨ht, hf⟩ := h
      refine V_icmp_ge X (tgt := 36) dX2_tells_29 (by decide) (fun c => ?_) (fun c => ?_)
      · have h := ht c
        refine V_iconst X (v := (0 : Int32)) dX2_tells_36 (by decide) ?_
        refine V_sub X (ls1 := [(0, .ref (ad k)), (1, .int l1)]) [0, 1] rfl ?_
        exact v_2_tells_b37 X hr hk ih _ _ _ h
      · have h := hf c
        refine V_iconst X (v := (1 : Int32)) dX2_tells_32 (by decide) ?_
        refine V_goto X (tgt := 37) dX2_tells_33 (by decide) ?_
        refine V_sub X (ls1 := [(0, .ref (ad k)), (1, .int l1)]) [0, 1] rfl ?_
        exact v_2_tells_b37 X hr hk ih _ _ _ h
set_option maxRecDepth 20000 in
theorem v_2_tells {k : Nat} (X : CXq p s m args meth c cX2_tells 4 yX2_tells.cls ad cy D (AW ad) s.heap) (hr : meth.sig.returnType = (some .int)) (hk : isLaw k) {w : Mem} {Q : Int32 → Mem → Prop} (h : wp_2_tells k w Q) : V p l e (RM 2) s m args below meth c 4 ad cy D (AW ad) s.heap 0 0 (MQ below (va_Qi Q (BC ad cy D wm wl0) (AW ad)) args s 0 0 (AW ad)) w wm wl0 0 [(0, .ref (ad k))] [] := by
  unfold wp_2_tells at h
  refine V_aload_n X (i := 0) 0 dX2_tells_0 rfl rfl ?_
  refine V_iconst X (v := (0 : Int32)) dX2_tells_1 (by decide) ?_
  obtain ⟨w1, ew1⟩ : ∃ y : Mem, y = st w k 7 (0 : Int32) := ⟨_, rfl⟩
  have h := h w1 ew1
  refine U_2_41 X (hk).1 (hk).2.1 (Law_r7 hk) rfl rfl dX2_tells_2 ew1 ?_
  refine V_iconst X (v := (0 : Int32)) dX2_tells_5 (by decide) ?_
  refine V_istore_n X dX2_tells_6 rfl (by decide) rfl (ls1 := [(1, .int (0 : Int32)), (0, .ref (ad k))]) rfl ?_
  refine V_sub X (ls1 := [(0, .ref (ad k)), (1, .int (0 : Int32))]) [1, 0] rfl ?_
  obtain ⟨nn, h⟩ := h
  exact v_2_tells_b7 X hr hk nn _ _ h
theorem c_2_tells {k : Nat} (hinj : INJ ad) (hk : isLaw k) {w : Mem} {Q : Int32 → Mem → Prop} (h : wp_2_tells k w Q) : Met l yX2_tells (TBq yX2_tells cX2_tells 4 (some .int)) (RM 2) (va_Pc [.ref (ad k)] (PB ad cy D (cmb w wm) wl0)) (va_Qi Q (BC ad cy D wm wl0) (AW ad)) 0 0 (AW ad) := M_enter (by decide) (Nat.le_of_ble_eq_true rfl) hinj (fun p e s m args below meth c X hr => v_2_tells X hr hk h)
theorem mf_2_tells : MFV yX2_tells cX2_tells 4 (some .int) yX2_tells.cls 0 := ⟨q_806, q_804, q_805, q_6, by decide⟩
theorem K_2_tells {own : String} {idx : Nat} {k : Nat} (X : CXq p s m args meth c cc nL own ad cy D A H0) (hL : LK own idx yX2_tells) (hk : isLaw k) {w : Mem} {Q : Int32 → Mem → Prop} (h : wp_2_tells k w Q) (hR : (RM 2).frames + 1 ≤ R.frames ∧ 8 + (4 + 11) + (RM 2).locals ≤ R.locals) (hce : ce ≤ R.cells ∧ sl ≤ R.slots) (hcat : (st1.map fun v => v.category).sum ≤ 8) (hd : decode cc pc = .ok (.invokevirtual idx, 3)) (kk : ∀ (r : Int32) (u : Mem), Q r u → V p l e R s m args below meth c nL ad cy D A H0 ce sl Qs u wm wl0 (pc + 3) ls (.int r :: st1)) : V p l e R s m args below meth c nL ad cy D A H0 ce sl Qs w wm wl0 pc ls (.ref (ad k) :: st1) := V_callVI_c X mf_2_tells hL (rfl : vwCl[2]? = some (RX2, TX2, 8)) (by decide) (hk).1 (Nat.lt_of_lt_of_le (hk).2.1 (CX_nn X)) (c_2_tells X.2.2.2.2.2.2.2.1 hk h) (As := []) rfl ⟨rfl, rfl⟩ hR hce st1 rfl hcat hd kk
set_option maxRecDepth 20000 in
theorem v_11_held {a1 : Int32} {a2 : Int32} {a3 : Int32} (X : CXq p s m args meth c cX11_held 3 yX11_held.cls ad cy D (AW ad) s.heap) (hr : meth.sig.returnType = (some .int)) {w : Mem} {Q : Int32 → Mem → Prop} (h : wp_11_held a1 a2 a3 w Q) : V p l e (RM 2) s m args below meth c 3 ad cy D (AW ad) s.heap 0 0 (MQ below (va_Qi Q (BC ad cy D wm wl0) (AW ad)) args s 0 0 (AW ad)) w wm wl0 0 [(0, .int a1), (1, .int a2), (2, .int a3)] [] := by
  unfold wp_11_held at h
  refine V_iload_n X (i := 1) 1 dX11_held_0 rfl rfl ?_
  refine V_iload_n X (i := 2) 2 dX11_held_1 rfl rfl ?_
  refine V_iload_n X (i := 0) 0 dX11_held_2 rfl rfl ?_
  refine V_mmin X dX11_held_3 q_818 q_645 q_19 q_646 (Nat.le_of_ble_eq_true rfl) (Nat.le_of_ble_eq_true rfl) (Nat.zero_le _) (Nat.zero_le _) ?_
  refine V_mmax X dX11_held_6 q_819 q_642 q_19 q_643 (Nat.le_of_ble_eq_true rfl) (Nat.le_of_ble_eq_true rfl) (Nat.zero_le _) (Nat.zero_le _) ?_
  exact V_iret_c X hr dX11_held_9 h
theorem c_11_held {a1 : Int32} {a2 : Int32} {a3 : Int32} (hinj : INJ ad) {w : Mem} {Q : Int32 → Mem → Prop} (h : wp_11_held a1 a2 a3 w Q) : Met l yX11_held (TBq yX11_held cX11_held 3 (some .int)) (RM 2) (va_Pc [.int a1, .int a2, .int a3] (PB ad cy D (cmb w wm) wl0)) (va_Qi Q (BC ad cy D wm wl0) (AW ad)) 0 0 (AW ad) := M_enter (by decide) (Nat.le_of_ble_eq_true rfl) hinj (fun p e s m args below meth c X hr => v_11_held X hr h)
theorem mf_11_held : MFS yX11_held cX11_held 3 (some .int) 3 := ⟨q_817, q_816, q_1, by decide⟩
theorem K_11_held {own : String} {idx : Nat} {a1 : Int32} {a2 : Int32} {a3 : Int32} (X : CXq p s m args meth c cc nL own ad cy D A H0) (hL : LK own idx yX11_held) {w : Mem} {Q : Int32 → Mem → Prop} (h : wp_11_held a1 a2 a3 w Q) (hR : (RM 2).frames + 1 ≤ R.frames ∧ 8 + (3 + 11) + (RM 2).locals ≤ R.locals) (hce : ce ≤ R.cells ∧ sl ≤ R.slots) (hcat : (st1.map fun v => v.category).sum ≤ 8) (hd : decode cc pc = .ok (.invokestatic idx, 3)) (kk : ∀ (r : Int32) (u : Mem), Q r u → V p l e R s m args below meth c nL ad cy D A H0 ce sl Qs u wm wl0 (pc + 3) ls (.int r :: st1)) : V p l e R s m args below meth c nL ad cy D A H0 ce sl Qs w wm wl0 pc ls (.int a3 :: .int a2 :: .int a1 :: st1) := V_callSI_c X mf_11_held hL (c_11_held X.2.2.2.2.2.2.2.1 h) (As := [.int a1, .int a2, .int a3]) rfl ⟨rfl, rfl⟩ hR hce st1 rfl hcat hd kk
set_option maxRecDepth 20000 in
theorem v_0_windAt {a1 : Int32} {a2 : Int32} (X : CXq p s m args meth c cX0_windAt 4 yX0_windAt.cls ad cy D (AW ad) s.heap) (hr : meth.sig.returnType = (some .int)) {w : Mem} {Q : Int32 → Mem → Prop} (h : wp_0_windAt a1 a2 w Q) : V p l e (RM 3) s m args below meth c 4 ad cy D (AW ad) s.heap 0 0 (MQ below (va_Qi Q (BC ad cy D wm wl0) (AW ad)) args s 0 0 (AW ad)) w wm wl0 0 [(0, .ref (ad 87)), (1, .int a1), (2, .int a2)] [] := by
  unfold wp_0_windAt at h
  refine V_aload_n X (i := 0) 0 dX0_windAt_0 rfl rfl ?_
  refine G_0_15 X dX0_windAt_1 ?_
  refine G_0_19 X (inst_Text_48).1 (inst_Text_48).2.1 (Text_r0 inst_Text_48) dX0_windAt_4 ?_
  refine V_iconst X (v := (0 : Int32)) dX0_windAt_7 (by decide) ?_
  refine V_iload_n X (i := 2) 2 dX0_windAt_8 rfl rfl ?_
  refine K_2_set X (Or.inl q_791) inst_Law_49 h ⟨Nat.le_of_ble_eq_true rfl, Nat.le_of_ble_eq_true rfl⟩ ⟨Nat.zero_le _, Nat.zero_le _⟩ (st1 := []) (Nat.le_of_ble_eq_true rfl) dX0_windAt_9 (fun w1 h => ?_)
  refine V_aload_n X (i := 0) 0 dX0_windAt_12 rfl rfl ?_
  refine G_0_15 X dX0_windAt_13 ?_
  refine G_0_19 X (inst_Text_48).1 (inst_Text_48).2.1 (Text_r0 inst_Text_48) dX0_windAt_16 ?_
  refine V_iconst X (v := (1 : Int32)) dX0_windAt_19 (by decide) ?_
  refine V_iload_n X (i := 1) 1 dX0_windAt_20 rfl rfl ?_
  refine K_2_set X (Or.inl q_791) inst_Law_49 h ⟨Nat.le_of_ble_eq_true rfl, Nat.le_of_ble_eq_true rfl⟩ ⟨Nat.zero_le _, Nat.zero_le _⟩ (st1 := []) (Nat.le_of_ble_eq_true rfl) dX0_windAt_21 (fun w2 h => ?_)
  refine V_aload_n X (i := 0) 0 dX0_windAt_24 rfl rfl ?_
  refine V_iconst X (v := (2 : Int32)) dX0_windAt_25 (by decide) ?_
  refine V_aload_n X (i := 0) 0 dX0_windAt_26 rfl rfl ?_
  refine G_0_15 X dX0_windAt_27 ?_
  refine G_0_31 X (inst_Text_48).1 (inst_Text_48).2.1 (Text_r11 inst_Text_48) dX0_windAt_30 ?_
  refine V_imul X dX0_windAt_33 ?_
  refine V_iconst X (v := (1 : Int32)) dX0_windAt_34 (by decide) ?_
  refine V_iadd X dX0_windAt_35 ?_
  refine V_bipush X (v := (8 : Int32)) dX0_windAt_36 (by decide) ?_
  refine V_iload_n X (i := 2) 2 dX0_windAt_38 rfl rfl ?_
  refine V_imul X dX0_windAt_39 ?_
  refine V_iload_n X (i := 1) 1 dX0_windAt_40 rfl rfl ?_
  refine V_iadd X dX0_windAt_41 ?_
  refine K_0_lot X (Or.inl q_795) h ⟨Nat.le_of_ble_eq_true rfl, Nat.le_of_ble_eq_true rfl⟩ ⟨Nat.zero_le _, Nat.zero_le _⟩ (st1 := []) (Nat.le_of_ble_eq_true rfl) dX0_windAt_42 (fun r4 w3 h => ?_)
  refine V_aload_n X (i := 0) 0 dX0_windAt_45 rfl rfl ?_
  refine G_0_15 X dX0_windAt_46 ?_
  refine G_0_31 X (inst_Text_48).1 (inst_Text_48).2.1 (Text_r11 inst_Text_48) dX0_windAt_49 ?_
  refine V_isub X dX0_windAt_52 ?_
  obtain ⟨x5, ex5⟩ : ∃ y : Int32, y = (r4 - (w3 48 11)) := ⟨_, rfl⟩
  have h := h x5 ex5
  refine V_istore_n X dX0_windAt_53 rfl (by decide) ex5 (ls1 := [(3, .int x5), (0, .ref (ad 87)), (1, .int a1), (2, .int a2)]) rfl ?_
  refine V_aload_n X (i := 0) 1 dX0_windAt_54 rfl rfl ?_
  refine G_0_15 X dX0_windAt_55 ?_
  refine G_0_19 X (inst_Text_48).1 (inst_Text_48).2.1 (Text_r0 inst_Text_48) dX0_windAt_58 ?_
  refine K_2_tells X (Or.inl q_803) inst_Law_49 h ⟨Nat.le_of_ble_eq_true rfl, Nat.le_of_ble_eq_true rfl⟩ ⟨Nat.zero_le _, Nat.zero_le _⟩ (st1 := []) (Nat.le_of_ble_eq_true rfl) dX0_windAt_61 (fun r7 w6 h => ?_)
  refine V_bipush X (v := (-99 : Int32)) dX0_windAt_64 (by decide) ?_
  refine V_bipush X (v := (99 : Int32)) dX0_windAt_66 (by decide) ?_
  refine K_11_held X (Or.inr ⟨_, q_815⟩) h ⟨Nat.le_of_ble_eq_true rfl, Nat.le_of_ble_eq_true rfl⟩ ⟨Nat.zero_le _, Nat.zero_le _⟩ (st1 := []) (Nat.le_of_ble_eq_true rfl) dX0_windAt_68 (fun r9 w8 h => ?_)
  refine V_iload_n X (i := 3) 0 dX0_windAt_71 rfl rfl ?_
  refine V_iadd X dX0_windAt_72 ?_
  exact V_iret_c X hr dX0_windAt_73 h
theorem c_0_windAt {a1 : Int32} {a2 : Int32} (hinj : INJ ad) {w : Mem} {Q : Int32 → Mem → Prop} (h : wp_0_windAt a1 a2 w Q) : Met l yX0_windAt (TBq yX0_windAt cX0_windAt 4 (some .int)) (RM 3) (va_Pc [.ref (ad 87), .int a1, .int a2] (PB ad cy D (cmb w wm) wl0)) (va_Qi Q (BC ad cy D wm wl0) (AW ad)) 0 0 (AW ad) := M_enter (by decide) (Nat.le_of_ble_eq_true rfl) hinj (fun p e s m args below meth c X hr => v_0_windAt X hr h)
theorem mf_0_windAt : MFV yX0_windAt cX0_windAt 4 (some .int) yX0_windAt.cls 2 := ⟨q_790, q_788, q_789, q_8, by decide⟩
theorem K_0_windAt {own : String} {idx : Nat} {a1 : Int32} {a2 : Int32} (X : CXq p s m args meth c cc nL own ad cy D A H0) (hL : LK own idx yX0_windAt) {w : Mem} {Q : Int32 → Mem → Prop} (h : wp_0_windAt a1 a2 w Q) (hR : (RM 3).frames + 1 ≤ R.frames ∧ 8 + (4 + 11) + (RM 3).locals ≤ R.locals) (hce : ce ≤ R.cells ∧ sl ≤ R.slots) (hcat : (st1.map fun v => v.category).sum ≤ 8) (hd : decode cc pc = .ok (.invokevirtual idx, 3)) (kk : ∀ (r : Int32) (u : Mem), Q r u → V p l e R s m args below meth c nL ad cy D A H0 ce sl Qs u wm wl0 (pc + 3) ls (.int r :: st1)) : V p l e R s m args below meth c nL ad cy D A H0 ce sl Qs w wm wl0 pc ls (.int a2 :: .int a1 :: .ref (ad 87) :: st1) := V_callVI_c X mf_0_windAt hL (rfl : vwCl[0]? = some (RX0, TX0, 8)) (by decide) (rfl : SK 87 = 0) (Nat.lt_of_lt_of_le (by decide : 87 < 150) (CX_nn X)) (c_0_windAt X.2.2.2.2.2.2.2.1 h) (As := [.int a1, .int a2]) rfl ⟨rfl, rfl⟩ hR hce st1 rfl hcat hd kk
set_option maxRecDepth 20000 in
theorem v_0_blow_b91 (X : CXq p s m args meth c cX0_blow 7 yX0_blow.cls ad cy D (AW ad) s.heap) (hr : meth.sig.returnType = none) {Q : Mem → Prop} : ∀ (s1 : Int32) (w : Mem), wp_0_blow_b91 Q s1 w → V p l e (RM 4) s m args below meth c 7 ad cy D (AW ad) s.heap 0 0 (MQ below (va_Qv Q (BC ad cy D wm wl0) (AW ad)) args s 0 0 (AW ad)) w wm wl0 91 [] [.int s1, .ref (ad 87)] := by
  intro s1 w h
  unfold wp_0_blow_b91 at h
  obtain ⟨w1, ew1⟩ : ∃ y : Mem, y = st w 87 3 s1 := ⟨_, rfl⟩
  have h := h w1 ew1
  refine U_0_56 X rfl rfl dX0_blow_91 ew1 ?_
  exact V_vret_c X hr dX0_blow_94 h
set_option maxRecDepth 20000 in
theorem v_0_blow_b10 (X : CXq p s m args meth c cX0_blow 7 yX0_blow.cls ad cy D (AW ad) s.heap) (hr : meth.sig.returnType = none) {Q : Mem → Prop} : ∀ (n : Nat) (l1 : Int32) (l2 : Int32) (l3 : Int32) (l4 : Int32) (l5 : Int32) (w : Mem), wp_0_blow_b10 Q n l1 l2 l3 l4 l5 w → V p l e (RM 4) s m args below meth c 7 ad cy D (AW ad) s.heap 0 0 (MQ below (va_Qv Q (BC ad cy D wm wl0) (AW ad)) args s 0 0 (AW ad)) w wm wl0 10 [(0, .ref (ad 87)), (1, .int l1), (2, .int l2), (3, .int l3), (4, .int l4), (5, .int l5)] [] := by
  intro n
  induction n with
  | zero =>
    intro l1 l2 l3 l4 l5 w h
    exact h.elim
  | succ n ih =>
    intro l1 l2 l3 l4 l5 w h
    unfold wp_0_blow_b10 at h
    refine V_iload X (i := 5) 5 dX0_blow_10 rfl ?_
    refine V_iconst X (v := (5 : Int32)) dX0_blow_12 (by decide) ?_
    obtain ⟨ht, hf⟩ := h
    refine V_icmp_ge X (tgt := 70) dX0_blow_13 (by decide) (fun c => ?_) (fun c => ?_)
    · have h := ht c
      refine V_aload_n X (i := 0) 0 dX0_blow_70 rfl rfl ?_
      refine V_iload_n X (i := 2) 2 dX0_blow_71 rfl rfl ?_
      refine V_iconst X (v := (5 : Int32)) dX0_blow_72 (by decide) ?_
      refine V_idiv X dX0_blow_73 (by decide) ?_
      obtain ⟨w1, ew1⟩ : ∃ y : Mem, y = st w 87 4 (l2 / (5 : Int32)) := ⟨_, rfl⟩
      have h := h w1 ew1
      refine U_0_53 X rfl rfl dX0_blow_74 ew1 ?_
      refine V_aload_n X (i := 0) 0 dX0_blow_77 rfl rfl ?_
      refine V_iload X (i := 4) 4 dX0_blow_78 rfl ?_
      obtain ⟨ht, hf⟩ := h
      refine V_if_ne X (tgt := 87) dX0_blow_80 (by decide) (fun c => ?_) (fun c => ?_)
      · have h := ht c
        refine V_iload_n X (i := 3) 3 dX0_blow_87 rfl rfl ?_
        refine V_iload X (i := 4) 4 dX0_blow_88 rfl ?_
        obtain ⟨g2, h⟩ := h
        refine V_idiv X dX0_blow_90 g2 ?_
        refine V_sub X (ls1 := []) [] rfl ?_
        exact v_0_blow_b91 X hr _ _ h
      · have h := hf c
        refine V_iconst X (v := (0 : Int32)) dX0_blow_83 (by decide) ?_
        refine V_goto X (tgt := 91) dX0_blow_84 (by decide) ?_
        refine V_sub X (ls1 := []) [] rfl ?_
        exact v_0_blow_b91 X hr _ _ h
    · have h := hf c
      refine V_aload_n X (i := 0) 0 dX0_blow_16 rfl rfl ?_
      refine V_iload X (i := 5) 5 dX0_blow_17 rfl ?_
      refine V_iload_n X (i := 1) 1 dX0_blow_19 rfl rfl ?_
      refine V_iload X (i := 5) 5 dX0_blow_20 rfl ?_
      refine V_iadd X dX0_blow_22 ?_
      refine K_0_windAt X (Or.inl q_787) h ⟨Nat.le_of_ble_eq_true rfl, Nat.le_of_ble_eq_true rfl⟩ ⟨Nat.zero_le _, Nat.zero_le _⟩ (st1 := []) (Nat.le_of_ble_eq_true rfl) dX0_blow_23 (fun r4 w3 h => ?_)
      refine V_istore X dX0_blow_26 (by decide) rfl (ls1 := [(6, .int r4), (0, .ref (ad 87)), (1, .int l1), (2, .int l2), (3, .int l3), (4, .int l4), (5, .int l5)]) rfl ?_
      refine V_iload_n X (i := 2) 3 dX0_blow_28 rfl rfl ?_
      refine V_iload X (i := 6) 0 dX0_blow_29 rfl ?_
      refine V_iadd X dX0_blow_31 ?_
      obtain ⟨x5, ex5⟩ : ∃ y : Int32, y = (l2 + r4) := ⟨_, rfl⟩
      have h := h x5 ex5
      refine V_istore_n X dX0_blow_32 rfl (by decide) ex5 (ls1 := [(2, .int x5), (6, .int r4), (0, .ref (ad 87)), (1, .int l1), (3, .int l3), (4, .int l4), (5, .int l5)]) rfl ?_
      refine V_iload_n X (i := 3) 4 dX0_blow_33 rfl rfl ?_
      refine V_aload_n X (i := 0) 2 dX0_blow_34 rfl rfl ?_
      refine G_0_15 X dX0_blow_35 ?_
      refine G_0_50 X (inst_Text_48).1 (inst_Text_48).2.1 (Text_r5 inst_Text_48) dX0_blow_38 ?_
      refine V_iload X (i := 5) 6 dX0_blow_41 rfl ?_
      obtain ⟨g6, h⟩ := h
      refine V_iald_c X (rfl : SLq 79 = 5) (by decide) (rfl : SK 79 = 14) g6 dX0_blow_43 ?_
      refine V_iload X (i := 6) 1 dX0_blow_44 rfl ?_
      refine V_imul X dX0_blow_46 ?_
      refine V_iadd X dX0_blow_47 ?_
      obtain ⟨x7, ex7⟩ : ∃ y : Int32, y = (l3 + ((w3 79 (ix l5)) * r4)) := ⟨_, rfl⟩
      have h := h x7 ex7
      refine V_istore_n X dX0_blow_48 rfl (by decide) ex7 (ls1 := [(3, .int x7), (2, .int x5), (6, .int r4), (0, .ref (ad 87)), (1, .int l1), (4, .int l4), (5, .int l5)]) rfl ?_
      refine V_iload X (i := 4) 5 dX0_blow_49 rfl ?_
      refine V_aload_n X (i := 0) 3 dX0_blow_51 rfl rfl ?_
      refine G_0_15 X dX0_blow_52 ?_
      refine G_0_50 X (inst_Text_48).1 (inst_Text_48).2.1 (Text_r5 inst_Text_48) dX0_blow_55 ?_
      refine V_iload X (i := 5) 6 dX0_blow_58 rfl ?_
      obtain ⟨g8, h⟩ := h
      refine V_iald_c X (rfl : SLq 79 = 5) (by decide) (rfl : SK 79 = 14) g8 dX0_blow_60 ?_
      refine V_iadd X dX0_blow_61 ?_
      obtain ⟨x9, ex9⟩ : ∃ y : Int32, y = (l4 + (w3 79 (ix l5))) := ⟨_, rfl⟩
      have h := h x9 ex9
      refine V_istore X dX0_blow_62 (by decide) ex9 (ls1 := [(4, .int x9), (3, .int x7), (2, .int x5), (6, .int r4), (0, .ref (ad 87)), (1, .int l1), (5, .int l5)]) rfl ?_
      obtain ⟨x10, ex10⟩ : ∃ y : Int32, y = l5 + (1 : Int32) := ⟨_, rfl⟩
      have h := h x10 ex10
      refine V_iinc X 6 dX0_blow_64 rfl (by decide) (by rw [ex10]; rfl) (ls1 := [(5, .int x10), (4, .int x9), (3, .int x7), (2, .int x5), (6, .int r4), (0, .ref (ad 87)), (1, .int l1)]) rfl ?_
      refine V_goto X (tgt := 10) dX0_blow_67 (by decide) ?_
      refine V_sub X (ls1 := [(0, .ref (ad 87)), (1, .int l1), (2, .int x5), (3, .int x7), (4, .int x9), (5, .int x10)]) [5, 6, 3, 2, 1, 0] rfl ?_
      exact ih _ _ _ _ _ _ h
set_option maxRecDepth 20000 in
theorem v_0_blow {a1 : Int32} (X : CXq p s m args meth c cX0_blow 7 yX0_blow.cls ad cy D (AW ad) s.heap) (hr : meth.sig.returnType = none) {w : Mem} {Q : Mem → Prop} (h : wp_0_blow a1 w Q) : V p l e (RM 4) s m args below meth c 7 ad cy D (AW ad) s.heap 0 0 (MQ below (va_Qv Q (BC ad cy D wm wl0) (AW ad)) args s 0 0 (AW ad)) w wm wl0 0 [(0, .ref (ad 87)), (1, .int a1)] [] := by
  unfold wp_0_blow at h
  refine V_iconst X (v := (0 : Int32)) dX0_blow_0 (by decide) ?_
  refine V_istore_n X dX0_blow_1 rfl (by decide) rfl (ls1 := [(2, .int (0 : Int32)), (0, .ref (ad 87)), (1, .int a1)]) rfl ?_
  refine V_iconst X (v := (0 : Int32)) dX0_blow_2 (by decide) ?_
  refine V_istore_n X dX0_blow_3 rfl (by decide) rfl (ls1 := [(3, .int (0 : Int32)), (2, .int (0 : Int32)), (0, .ref (ad 87)), (1, .int a1)]) rfl ?_
  refine V_iconst X (v := (0 : Int32)) dX0_blow_4 (by decide) ?_
  refine V_istore X dX0_blow_5 (by decide) rfl (ls1 := [(4, .int (0 : Int32)), (3, .int (0 : Int32)), (2, .int (0 : Int32)), (0, .ref (ad 87)), (1, .int a1)]) rfl ?_
  refine V_iconst X (v := (0 : Int32)) dX0_blow_7 (by decide) ?_
  refine V_istore X dX0_blow_8 (by decide) rfl (ls1 := [(5, .int (0 : Int32)), (4, .int (0 : Int32)), (3, .int (0 : Int32)), (2, .int (0 : Int32)), (0, .ref (ad 87)), (1, .int a1)]) rfl ?_
  refine V_sub X (ls1 := [(0, .ref (ad 87)), (1, .int a1), (2, .int (0 : Int32)), (3, .int (0 : Int32)), (4, .int (0 : Int32)), (5, .int (0 : Int32))]) [4, 5, 3, 2, 1, 0] rfl ?_
  obtain ⟨nn, h⟩ := h
  exact v_0_blow_b10 X hr nn _ _ _ _ _ _ h
theorem c_0_blow {a1 : Int32} (hinj : INJ ad) {w : Mem} {Q : Mem → Prop} (h : wp_0_blow a1 w Q) : Met l yX0_blow (TBq yX0_blow cX0_blow 7 none) (RM 4) (va_Pc [.ref (ad 87), .int a1] (PB ad cy D (cmb w wm) wl0)) (va_Qv Q (BC ad cy D wm wl0) (AW ad)) 0 0 (AW ad) := M_enter (by decide) (Nat.le_of_ble_eq_true rfl) hinj (fun p e s m args below meth c X hr => v_0_blow X hr h)
theorem mf_0_blow : MFV yX0_blow cX0_blow 7 none yX0_blow.cls 1 := ⟨q_786, q_784, q_785, q_8, by decide⟩
theorem K_0_blow {own : String} {idx : Nat} {a1 : Int32} (X : CXq p s m args meth c cc nL own ad cy D A H0) (hL : LK own idx yX0_blow) {w : Mem} {Q : Mem → Prop} (h : wp_0_blow a1 w Q) (hR : (RM 4).frames + 1 ≤ R.frames ∧ 8 + (7 + 11) + (RM 4).locals ≤ R.locals) (hce : ce ≤ R.cells ∧ sl ≤ R.slots) (hcat : (st1.map fun v => v.category).sum ≤ 8) (hd : decode cc pc = .ok (.invokevirtual idx, 3)) (kk : ∀ (u : Mem), Q u → V p l e R s m args below meth c nL ad cy D A H0 ce sl Qs u wm wl0 (pc + 3) ls st1) : V p l e R s m args below meth c nL ad cy D A H0 ce sl Qs w wm wl0 pc ls (.int a1 :: .ref (ad 87) :: st1) := V_callVV_c X mf_0_blow hL (rfl : vwCl[0]? = some (RX0, TX0, 8)) (by decide) (rfl : SK 87 = 0) (Nat.lt_of_lt_of_le (by decide : 87 < 150) (CX_nn X)) (c_0_blow X.2.2.2.2.2.2.2.1 h) (As := [.int a1]) rfl ⟨rfl, rfl⟩ hR hce st1 rfl hcat hd kk
set_option maxRecDepth 20000 in
theorem v_0_calmDown (X : CXq p s m args meth c cX0_calmDown 1 yX0_calmDown.cls ad cy D (AW ad) s.heap) (hr : meth.sig.returnType = none) {w : Mem} {Q : Mem → Prop} (h : wp_0_calmDown w Q) : V p l e (RM 0) s m args below meth c 1 ad cy D (AW ad) s.heap 0 0 (MQ below (va_Qv Q (BC ad cy D wm wl0) (AW ad)) args s 0 0 (AW ad)) w wm wl0 0 [(0, .ref (ad 87))] [] := by
  unfold wp_0_calmDown at h
  refine V_aload_n X (i := 0) 0 dX0_calmDown_0 rfl rfl ?_
  refine V_iconst X (v := (0 : Int32)) dX0_calmDown_1 (by decide) ?_
  obtain ⟨w1, ew1⟩ : ∃ y : Mem, y = st w 87 4 (0 : Int32) := ⟨_, rfl⟩
  have h := h w1 ew1
  refine U_0_53 X rfl rfl dX0_calmDown_2 ew1 ?_
  refine V_aload_n X (i := 0) 0 dX0_calmDown_5 rfl rfl ?_
  refine V_iconst X (v := (0 : Int32)) dX0_calmDown_6 (by decide) ?_
  obtain ⟨w2, ew2⟩ : ∃ y : Mem, y = st w1 87 3 (0 : Int32) := ⟨_, rfl⟩
  have h := h w2 ew2
  refine U_0_56 X rfl rfl dX0_calmDown_7 ew2 ?_
  exact V_vret_c X hr dX0_calmDown_10 h
theorem c_0_calmDown (hinj : INJ ad) {w : Mem} {Q : Mem → Prop} (h : wp_0_calmDown w Q) : Met l yX0_calmDown (TBq yX0_calmDown cX0_calmDown 1 none) (RM 0) (va_Pc [.ref (ad 87)] (PB ad cy D (cmb w wm) wl0)) (va_Qv Q (BC ad cy D wm wl0) (AW ad)) 0 0 (AW ad) := M_enter (by decide) (Nat.le_of_ble_eq_true rfl) hinj (fun p e s m args below meth c X hr => v_0_calmDown X hr h)
theorem mf_0_calmDown : MFV yX0_calmDown cX0_calmDown 1 none yX0_calmDown.cls 0 := ⟨q_1012, q_1010, q_1011, q_8, by decide⟩
theorem K_0_calmDown {own : String} {idx : Nat} (X : CXq p s m args meth c cc nL own ad cy D A H0) (hL : LK own idx yX0_calmDown) {w : Mem} {Q : Mem → Prop} (h : wp_0_calmDown w Q) (hR : (RM 0).frames + 1 ≤ R.frames ∧ 8 + (1 + 11) + (RM 0).locals ≤ R.locals) (hce : ce ≤ R.cells ∧ sl ≤ R.slots) (hcat : (st1.map fun v => v.category).sum ≤ 8) (hd : decode cc pc = .ok (.invokevirtual idx, 3)) (kk : ∀ (u : Mem), Q u → V p l e R s m args below meth c nL ad cy D A H0 ce sl Qs u wm wl0 (pc + 3) ls st1) : V p l e R s m args below meth c nL ad cy D A H0 ce sl Qs w wm wl0 pc ls (.ref (ad 87) :: st1) := V_callVV_c X mf_0_calmDown hL (rfl : vwCl[0]? = some (RX0, TX0, 8)) (by decide) (rfl : SK 87 = 0) (Nat.lt_of_lt_of_le (by decide : 87 < 150) (CX_nn X)) (c_0_calmDown X.2.2.2.2.2.2.2.1 h) (As := []) rfl ⟨rfl, rfl⟩ hR hce st1 rfl hcat hd kk
set_option maxRecDepth 20000 in
theorem v_0_slipOf {a1 : Int32} {a2 : Int32} (X : CXq p s m args meth c cX0_slipOf 4 yX0_slipOf.cls ad cy D (AW ad) s.heap) (hr : meth.sig.returnType = (some .int)) {w : Mem} {Q : Int32 → Mem → Prop} (h : wp_0_slipOf a1 a2 w Q) : V p l e (RM 2) s m args below meth c 4 ad cy D (AW ad) s.heap 0 0 (MQ below (va_Qi Q (BC ad cy D wm wl0) (AW ad)) args s 0 0 (AW ad)) w wm wl0 0 [(0, .ref (ad 87)), (1, .int a1), (2, .int a2)] [] := by
  unfold wp_0_slipOf at h
  refine V_aload_n X (i := 0) 0 dX0_slipOf_0 rfl rfl ?_
  refine G_0_15 X dX0_slipOf_1 ?_
  refine G_0_59 X (inst_Text_48).1 (inst_Text_48).2.1 (Text_r6 inst_Text_48) dX0_slipOf_4 ?_
  refine G_0_63 X (inst_People_80).1 (inst_People_80).2.1 (People_r2 inst_People_80) dX0_slipOf_7 ?_
  refine V_iload_n X (i := 1) 1 dX0_slipOf_10 rfl rfl ?_
  obtain ⟨g1, h⟩ := h
  refine V_iald_c X (rfl : SLq 83 = 8) (by decide) (rfl : SK 83 = 14) g1 dX0_slipOf_11 ?_
  obtain ⟨x2, ex2⟩ : ∃ y : Int32, y = (w 83 (ix a1)) := ⟨_, rfl⟩
  have h := h x2 ex2
  refine V_istore_n X dX0_slipOf_12 rfl (by decide) ex2 (ls1 := [(3, .int x2), (0, .ref (ad 87)), (1, .int a1), (2, .int a2)]) rfl ?_
  refine V_aload_n X (i := 0) 1 dX0_slipOf_13 rfl rfl ?_
  refine V_iconst X (v := (2 : Int32)) dX0_slipOf_14 (by decide) ?_
  refine V_iload_n X (i := 3) 0 dX0_slipOf_15 rfl rfl ?_
  refine V_imul X dX0_slipOf_16 ?_
  refine V_iconst X (v := (1 : Int32)) dX0_slipOf_17 (by decide) ?_
  refine V_iadd X dX0_slipOf_18 ?_
  refine V_ldc X (v := (100000 : Int32)) dX0_slipOf_19 q_915 ?_
  refine V_iload_n X (i := 2) 3 dX0_slipOf_21 rfl rfl ?_
  refine V_iadd X dX0_slipOf_22 ?_
  refine K_0_lot X (Or.inl q_795) h ⟨Nat.le_of_ble_eq_true rfl, Nat.le_of_ble_eq_true rfl⟩ ⟨Nat.zero_le _, Nat.zero_le _⟩ (st1 := []) (Nat.le_of_ble_eq_true rfl) dX0_slipOf_23 (fun r4 w3 h => ?_)
  refine V_iload_n X (i := 3) 0 dX0_slipOf_26 rfl rfl ?_
  refine V_isub X dX0_slipOf_27 ?_
  exact V_iret_c X hr dX0_slipOf_28 h
theorem c_0_slipOf {a1 : Int32} {a2 : Int32} (hinj : INJ ad) {w : Mem} {Q : Int32 → Mem → Prop} (h : wp_0_slipOf a1 a2 w Q) : Met l yX0_slipOf (TBq yX0_slipOf cX0_slipOf 4 (some .int)) (RM 2) (va_Pc [.ref (ad 87), .int a1, .int a2] (PB ad cy D (cmb w wm) wl0)) (va_Qi Q (BC ad cy D wm wl0) (AW ad)) 0 0 (AW ad) := M_enter (by decide) (Nat.le_of_ble_eq_true rfl) hinj (fun p e s m args below meth c X hr => v_0_slipOf X hr h)
theorem mf_0_slipOf : MFV yX0_slipOf cX0_slipOf 4 (some .int) yX0_slipOf.cls 2 := ⟨q_914, q_912, q_913, q_8, by decide⟩
theorem K_0_slipOf {own : String} {idx : Nat} {a1 : Int32} {a2 : Int32} (X : CXq p s m args meth c cc nL own ad cy D A H0) (hL : LK own idx yX0_slipOf) {w : Mem} {Q : Int32 → Mem → Prop} (h : wp_0_slipOf a1 a2 w Q) (hR : (RM 2).frames + 1 ≤ R.frames ∧ 8 + (4 + 11) + (RM 2).locals ≤ R.locals) (hce : ce ≤ R.cells ∧ sl ≤ R.slots) (hcat : (st1.map fun v => v.category).sum ≤ 8) (hd : decode cc pc = .ok (.invokevirtual idx, 3)) (kk : ∀ (r : Int32) (u : Mem), Q r u → V p l e R s m args below meth c nL ad cy D A H0 ce sl Qs u wm wl0 (pc + 3) ls (.int r :: st1)) : V p l e R s m args below meth c nL ad cy D A H0 ce sl Qs w wm wl0 pc ls (.int a2 :: .int a1 :: .ref (ad 87) :: st1) := V_callVI_c X mf_0_slipOf hL (rfl : vwCl[0]? = some (RX0, TX0, 8)) (by decide) (rfl : SK 87 = 0) (Nat.lt_of_lt_of_le (by decide : 87 < 150) (CX_nn X)) (c_0_slipOf X.2.2.2.2.2.2.2.1 h) (As := [.int a1, .int a2]) rfl ⟨rfl, rfl⟩ hR hce st1 rfl hcat hd kk
set_option maxRecDepth 20000 in
theorem v_0_goes {a1 : Int32} {a2 : Int32} (X : CXq p s m args meth c cX0_goes 4 yX0_goes.cls ad cy D (AW ad) s.heap) (hr : meth.sig.returnType = (some .boolean)) {w : Mem} {Q : Int32 → Mem → Prop} (h : wp_0_goes a1 a2 w Q) : V p l e (RM 3) s m args below meth c 4 ad cy D (AW ad) s.heap 0 0 (MQ below (va_Qi Q (BC ad cy D wm wl0) (AW ad)) args s 0 0 (AW ad)) w wm wl0 0 [(0, .ref (ad 87)), (1, .int a1), (2, .int a2)] [] := by
  unfold wp_0_goes at h
  refine V_aload_n X (i := 0) 0 dX0_goes_0 rfl rfl ?_
  refine G_0_15 X dX0_goes_1 ?_
  refine G_0_69 X (inst_Text_48).1 (inst_Text_48).2.1 (Text_r4 inst_Text_48) dX0_goes_4 ?_
  refine V_astore_n X dX0_goes_7 rfl (by decide) rfl (ls1 := [(3, .ref (ad 73)), (0, .ref (ad 87)), (1, .int a1), (2, .int a2)]) rfl ?_
  refine V_aload_n X (i := 3) 0 dX0_goes_8 rfl rfl ?_
  refine V_iconst X (v := (0 : Int32)) dX0_goes_9 (by decide) ?_
  refine V_iload_n X (i := 2) 3 dX0_goes_10 rfl rfl ?_
  refine K_2_set X (Or.inl q_791) inst_Law_73 h ⟨Nat.le_of_ble_eq_true rfl, Nat.le_of_ble_eq_true rfl⟩ ⟨Nat.zero_le _, Nat.zero_le _⟩ (st1 := []) (Nat.le_of_ble_eq_true rfl) dX0_goes_11 (fun w1 h => ?_)
  refine V_aload_n X (i := 3) 0 dX0_goes_14 rfl rfl ?_
  refine V_iconst X (v := (2 : Int32)) dX0_goes_15 (by decide) ?_
  refine V_aload_n X (i := 0) 1 dX0_goes_16 rfl rfl ?_
  refine G_0_53 X dX0_goes_17 ?_
  refine K_2_set X (Or.inl q_791) inst_Law_73 h ⟨Nat.le_of_ble_eq_true rfl, Nat.le_of_ble_eq_true rfl⟩ ⟨Nat.zero_le _, Nat.zero_le _⟩ (st1 := []) (Nat.le_of_ble_eq_true rfl) dX0_goes_20 (fun w2 h => ?_)
  refine V_aload_n X (i := 3) 0 dX0_goes_23 rfl rfl ?_
  refine V_iconst X (v := (3 : Int32)) dX0_goes_24 (by decide) ?_
  refine V_aload_n X (i := 0) 1 dX0_goes_25 rfl rfl ?_
  refine G_0_15 X dX0_goes_26 ?_
  refine G_0_59 X (inst_Text_48).1 (inst_Text_48).2.1 (Text_r6 inst_Text_48) dX0_goes_29 ?_
  refine G_0_72 X (inst_People_80).1 (inst_People_80).2.1 (People_r0 inst_People_80) dX0_goes_32 ?_
  refine V_iload_n X (i := 1) 2 dX0_goes_35 rfl rfl ?_
  obtain ⟨g3, h⟩ := h
  refine V_iald_c X (rfl : SLq 81 = 8) (by decide) (rfl : SK 81 = 14) g3 dX0_goes_36 ?_
  refine K_2_set X (Or.inl q_791) inst_Law_73 h ⟨Nat.le_of_ble_eq_true rfl, Nat.le_of_ble_eq_true rfl⟩ ⟨Nat.zero_le _, Nat.zero_le _⟩ (st1 := []) (Nat.le_of_ble_eq_true rfl) dX0_goes_37 (fun w4 h => ?_)
  refine V_aload_n X (i := 3) 0 dX0_goes_40 rfl rfl ?_
  refine V_iconst X (v := (4 : Int32)) dX0_goes_41 (by decide) ?_
  refine V_aload_n X (i := 0) 1 dX0_goes_42 rfl rfl ?_
  refine G_0_15 X dX0_goes_43 ?_
  refine G_0_59 X (inst_Text_48).1 (inst_Text_48).2.1 (Text_r6 inst_Text_48) dX0_goes_46 ?_
  refine G_0_75 X (inst_People_80).1 (inst_People_80).2.1 (People_r1 inst_People_80) dX0_goes_49 ?_
  refine V_iload_n X (i := 1) 2 dX0_goes_52 rfl rfl ?_
  obtain ⟨g5, h⟩ := h
  refine V_iald_c X (rfl : SLq 82 = 8) (by decide) (rfl : SK 82 = 14) g5 dX0_goes_53 ?_
  refine K_2_set X (Or.inl q_791) inst_Law_73 h ⟨Nat.le_of_ble_eq_true rfl, Nat.le_of_ble_eq_true rfl⟩ ⟨Nat.zero_le _, Nat.zero_le _⟩ (st1 := []) (Nat.le_of_ble_eq_true rfl) dX0_goes_54 (fun w6 h => ?_)
  refine V_aload_n X (i := 3) 0 dX0_goes_57 rfl rfl ?_
  refine K_2_tells X (Or.inl q_803) inst_Law_73 h ⟨Nat.le_of_ble_eq_true rfl, Nat.le_of_ble_eq_true rfl⟩ ⟨Nat.zero_le _, Nat.zero_le _⟩ (st1 := []) (Nat.le_of_ble_eq_true rfl) dX0_goes_58 (fun r8 w7 h => ?_)
  obtain ⟨ht, hf⟩ := h
  refine V_if_le X (tgt := 68) dX0_goes_61 (by decide) (fun c => ?_) (fun c => ?_)
  · have h := ht c
    refine V_iconst X (v := (0 : Int32)) dX0_goes_68 (by decide) ?_
    exact V_zret_c X hr dX0_goes_69 rfl h
  · have h := hf c
    refine V_iconst X (v := (1 : Int32)) dX0_goes_64 (by decide) ?_
    refine V_goto X (tgt := 69) dX0_goes_65 (by decide) ?_
    exact V_zret_c X hr dX0_goes_69 rfl h
theorem c_0_goes {a1 : Int32} {a2 : Int32} (hinj : INJ ad) {w : Mem} {Q : Int32 → Mem → Prop} (h : wp_0_goes a1 a2 w Q) : Met l yX0_goes (TBq yX0_goes cX0_goes 4 (some .boolean)) (RM 3) (va_Pc [.ref (ad 87), .int a1, .int a2] (PB ad cy D (cmb w wm) wl0)) (va_Qi Q (BC ad cy D wm wl0) (AW ad)) 0 0 (AW ad) := M_enter (by decide) (Nat.le_of_ble_eq_true rfl) hinj (fun p e s m args below meth c X hr => v_0_goes X hr h)
theorem mf_0_goes : MFV yX0_goes cX0_goes 4 (some .boolean) yX0_goes.cls 2 := ⟨q_906, q_904, q_905, q_8, by decide⟩
theorem K_0_goes {own : String} {idx : Nat} {a1 : Int32} {a2 : Int32} (X : CXq p s m args meth c cc nL own ad cy D A H0) (hL : LK own idx yX0_goes) {w : Mem} {Q : Int32 → Mem → Prop} (h : wp_0_goes a1 a2 w Q) (hR : (RM 3).frames + 1 ≤ R.frames ∧ 8 + (4 + 11) + (RM 3).locals ≤ R.locals) (hce : ce ≤ R.cells ∧ sl ≤ R.slots) (hcat : (st1.map fun v => v.category).sum ≤ 8) (hd : decode cc pc = .ok (.invokevirtual idx, 3)) (kk : ∀ (r : Int32) (u : Mem), Q r u → V p l e R s m args below meth c nL ad cy D A H0 ce sl Qs u wm wl0 (pc + 3) ls (.int r :: st1)) : V p l e R s m args below meth c nL ad cy D A H0 ce sl Qs w wm wl0 pc ls (.int a2 :: .int a1 :: .ref (ad 87) :: st1) := V_callVI_c X mf_0_goes hL (rfl : vwCl[0]? = some (RX0, TX0, 8)) (by decide) (rfl : SK 87 = 0) (Nat.lt_of_lt_of_le (by decide : 87 < 150) (CX_nn X)) (c_0_goes X.2.2.2.2.2.2.2.1 h) (As := [.int a1, .int a2]) rfl ⟨rfl, rfl⟩ hR hce st1 rfl hcat hd kk
set_option maxRecDepth 20000 in
theorem v_0_reach {a1 : Int32} {a2 : Int32} {a3 : Int32} {a4 : Int32} {a5 : Int32} (X : CXq p s m args meth c cX0_reach 7 yX0_reach.cls ad cy D (AW ad) s.heap) (hr : meth.sig.returnType = (some .int)) {w : Mem} {Q : Int32 → Mem → Prop} (h : wp_0_reach a1 a2 a3 a4 a5 w Q) : V p l e (RM 3) s m args below meth c 7 ad cy D (AW ad) s.heap 0 0 (MQ below (va_Qi Q (BC ad cy D wm wl0) (AW ad)) args s 0 0 (AW ad)) w wm wl0 0 [(0, .ref (ad 87)), (1, .int a1), (2, .int a2), (3, .int a3), (4, .int a4), (5, .int a5)] [] := by
  unfold wp_0_reach at h
  refine V_aload_n X (i := 0) 0 dX0_reach_0 rfl rfl ?_
  refine G_0_15 X dX0_reach_1 ?_
  refine G_0_82 X (inst_Text_48).1 (inst_Text_48).2.1 (Text_r1 inst_Text_48) dX0_reach_4 ?_
  refine V_astore X dX0_reach_7 (by decide) rfl (ls1 := [(6, .ref (ad 55)), (0, .ref (ad 87)), (1, .int a1), (2, .int a2), (3, .int a3), (4, .int a4), (5, .int a5)]) rfl ?_
  refine V_aload X (i := 6) 0 dX0_reach_9 rfl ?_
  refine V_iconst X (v := (2 : Int32)) dX0_reach_11 (by decide) ?_
  refine V_aload_n X (i := 0) 1 dX0_reach_12 rfl rfl ?_
  refine G_0_56 X dX0_reach_13 ?_
  refine K_2_set X (Or.inl q_791) inst_Law_55 h ⟨Nat.le_of_ble_eq_true rfl, Nat.le_of_ble_eq_true rfl⟩ ⟨Nat.zero_le _, Nat.zero_le _⟩ (st1 := []) (Nat.le_of_ble_eq_true rfl) dX0_reach_16 (fun w1 h => ?_)
  refine V_aload X (i := 6) 0 dX0_reach_19 rfl ?_
  refine V_iconst X (v := (3 : Int32)) dX0_reach_21 (by decide) ?_
  refine V_iload_n X (i := 1) 2 dX0_reach_22 rfl rfl ?_
  refine K_2_set X (Or.inl q_791) inst_Law_55 h ⟨Nat.le_of_ble_eq_true rfl, Nat.le_of_ble_eq_true rfl⟩ ⟨Nat.zero_le _, Nat.zero_le _⟩ (st1 := []) (Nat.le_of_ble_eq_true rfl) dX0_reach_23 (fun w2 h => ?_)
  refine V_aload X (i := 6) 0 dX0_reach_26 rfl ?_
  refine V_iconst X (v := (4 : Int32)) dX0_reach_28 (by decide) ?_
  refine V_iload_n X (i := 2) 3 dX0_reach_29 rfl rfl ?_
  refine K_2_set X (Or.inl q_791) inst_Law_55 h ⟨Nat.le_of_ble_eq_true rfl, Nat.le_of_ble_eq_true rfl⟩ ⟨Nat.zero_le _, Nat.zero_le _⟩ (st1 := []) (Nat.le_of_ble_eq_true rfl) dX0_reach_30 (fun w3 h => ?_)
  refine V_aload X (i := 6) 0 dX0_reach_33 rfl ?_
  refine V_iconst X (v := (5 : Int32)) dX0_reach_35 (by decide) ?_
  refine V_iload_n X (i := 3) 4 dX0_reach_36 rfl rfl ?_
  refine K_2_set X (Or.inl q_791) inst_Law_55 h ⟨Nat.le_of_ble_eq_true rfl, Nat.le_of_ble_eq_true rfl⟩ ⟨Nat.zero_le _, Nat.zero_le _⟩ (st1 := []) (Nat.le_of_ble_eq_true rfl) dX0_reach_37 (fun w4 h => ?_)
  refine V_aload X (i := 6) 0 dX0_reach_40 rfl ?_
  refine V_bipush X (v := (6 : Int32)) dX0_reach_42 (by decide) ?_
  refine V_aload_n X (i := 0) 1 dX0_reach_44 rfl rfl ?_
  refine G_0_15 X dX0_reach_45 ?_
  refine G_0_85 X (inst_Text_48).1 (inst_Text_48).2.1 (Text_r10 inst_Text_48) dX0_reach_48 ?_
  refine V_iload X (i := 5) 6 dX0_reach_51 rfl ?_
  refine V_imul X dX0_reach_53 ?_
  refine K_2_set X (Or.inl q_791) inst_Law_55 h ⟨Nat.le_of_ble_eq_true rfl, Nat.le_of_ble_eq_true rfl⟩ ⟨Nat.zero_le _, Nat.zero_le _⟩ (st1 := []) (Nat.le_of_ble_eq_true rfl) dX0_reach_54 (fun w5 h => ?_)
  refine V_aload X (i := 6) 0 dX0_reach_57 rfl ?_
  refine V_bipush X (v := (7 : Int32)) dX0_reach_59 (by decide) ?_
  refine V_iload X (i := 4) 5 dX0_reach_61 rfl ?_
  refine V_aload_n X (i := 0) 1 dX0_reach_63 rfl rfl ?_
  refine G_0_15 X dX0_reach_64 ?_
  refine G_0_88 X (inst_Text_48).1 (inst_Text_48).2.1 (Text_r14 inst_Text_48) dX0_reach_67 ?_
  refine V_isub X dX0_reach_70 ?_
  refine K_2_set X (Or.inl q_791) inst_Law_55 h ⟨Nat.le_of_ble_eq_true rfl, Nat.le_of_ble_eq_true rfl⟩ ⟨Nat.zero_le _, Nat.zero_le _⟩ (st1 := []) (Nat.le_of_ble_eq_true rfl) dX0_reach_71 (fun w6 h => ?_)
  refine V_aload_n X (i := 0) 1 dX0_reach_74 rfl rfl ?_
  refine V_aload X (i := 6) 0 dX0_reach_75 rfl ?_
  refine K_2_tells X (Or.inl q_803) inst_Law_55 h ⟨Nat.le_of_ble_eq_true rfl, Nat.le_of_ble_eq_true rfl⟩ ⟨Nat.zero_le _, Nat.zero_le _⟩ (st1 := [.ref (ad 87)]) (Nat.le_of_ble_eq_true rfl) dX0_reach_77 (fun r8 w7 h => ?_)
  refine V_iconst X (v := (0 : Int32)) dX0_reach_80 (by decide) ?_
  refine V_sipush X (v := (9999 : Int32)) dX0_reach_81 (by decide) ?_
  refine K_11_held X (Or.inr ⟨_, q_815⟩) h ⟨Nat.le_of_ble_eq_true rfl, Nat.le_of_ble_eq_true rfl⟩ ⟨Nat.zero_le _, Nat.zero_le _⟩ (st1 := [.ref (ad 87)]) (Nat.le_of_ble_eq_true rfl) dX0_reach_84 (fun r10 w9 h => ?_)
  obtain ⟨w11, ew11⟩ : ∃ y : Mem, y = st w9 87 5 r10 := ⟨_, rfl⟩
  have h := h w11 ew11
  refine U_0_91 X rfl rfl dX0_reach_87 ew11 ?_
  refine V_aload_n X (i := 0) 1 dX0_reach_90 rfl rfl ?_
  refine G_0_91 X dX0_reach_91 ?_
  exact V_iret_c X hr dX0_reach_94 h
theorem c_0_reach {a1 : Int32} {a2 : Int32} {a3 : Int32} {a4 : Int32} {a5 : Int32} (hinj : INJ ad) {w : Mem} {Q : Int32 → Mem → Prop} (h : wp_0_reach a1 a2 a3 a4 a5 w Q) : Met l yX0_reach (TBq yX0_reach cX0_reach 7 (some .int)) (RM 3) (va_Pc [.ref (ad 87), .int a1, .int a2, .int a3, .int a4, .int a5] (PB ad cy D (cmb w wm) wl0)) (va_Qi Q (BC ad cy D wm wl0) (AW ad)) 0 0 (AW ad) := M_enter (by decide) (Nat.le_of_ble_eq_true rfl) hinj (fun p e s m args below meth c X hr => v_0_reach X hr h)
theorem mf_0_reach : MFV yX0_reach cX0_reach 7 (some .int) yX0_reach.cls 5 := ⟨q_923, q_921, q_922, q_8, by decide⟩
theorem K_0_reach {own : String} {idx : Nat} {a1 : Int32} {a2 : Int32} {a3 : Int32} {a4 : Int32} {a5 : Int32} (X : CXq p s m args meth c cc nL own ad cy D A H0) (hL : LK own idx yX0_reach) {w : Mem} {Q : Int32 → Mem → Prop} (h : wp_0_reach a1 a2 a3 a4 a5 w Q) (hR : (RM 3).frames + 1 ≤ R.frames ∧ 8 + (7 + 11) + (RM 3).locals ≤ R.locals) (hce : ce ≤ R.cells ∧ sl ≤ R.slots) (hcat : (st1.map fun v => v.category).sum ≤ 8) (hd : decode cc pc = .ok (.invokevirtual idx, 3)) (kk : ∀ (r : Int32) (u : Mem), Q r u → V p l e R s m args below meth c nL ad cy D A H0 ce sl Qs u wm wl0 (pc + 3) ls (.int r :: st1)) : V p l e R s m args below meth c nL ad cy D A H0 ce sl Qs w wm wl0 pc ls (.int a5 :: .int a4 :: .int a3 :: .int a2 :: .int a1 :: .ref (ad 87) :: st1) := V_callVI_c X mf_0_reach hL (rfl : vwCl[0]? = some (RX0, TX0, 8)) (by decide) (rfl : SK 87 = 0) (Nat.lt_of_lt_of_le (by decide : 87 < 150) (CX_nn X)) (c_0_reach X.2.2.2.2.2.2.2.1 h) (As := [.int a1, .int a2, .int a3, .int a4, .int a5]) rfl ⟨rfl, rfl⟩ hR hce st1 rfl hcat hd kk
set_option maxRecDepth 20000 in
theorem v_0_reachOf {a1 : Int32} {a2 : Int32} {a3 : Int32} {a4 : Int32} (X : CXq p s m args meth c cX0_reachOf 5 yX0_reachOf.cls ad cy D (AW ad) s.heap) (hr : meth.sig.returnType = (some .int)) {w : Mem} {Q : Int32 → Mem → Prop} (h : wp_0_reachOf a1 a2 a3 a4 w Q) : V p l e (RM 4) s m args below meth c 5 ad cy D (AW ad) s.heap 0 0 (MQ below (va_Qi Q (BC ad cy D wm wl0) (AW ad)) args s 0 0 (AW ad)) w wm wl0 0 [(0, .ref (ad 87)), (1, .int a1), (2, .int a2), (3, .int a3), (4, .int a4)] [] := by
  unfold wp_0_reachOf at h
  refine V_aload_n X (i := 0) 0 dX0_reachOf_0 rfl rfl ?_
  refine V_aload_n X (i := 0) 0 dX0_reachOf_1 rfl rfl ?_
  refine G_0_15 X dX0_reachOf_2 ?_
  refine G_0_59 X (inst_Text_48).1 (inst_Text_48).2.1 (Text_r6 inst_Text_48) dX0_reachOf_5 ?_
  refine G_0_72 X (inst_People_80).1 (inst_People_80).2.1 (People_r0 inst_People_80) dX0_reachOf_8 ?_
  refine V_iload_n X (i := 1) 1 dX0_reachOf_11 rfl rfl ?_
  obtain ⟨g1, h⟩ := h
  refine V_iald_c X (rfl : SLq 81 = 8) (by decide) (rfl : SK 81 = 14) g1 dX0_reachOf_12 ?_
  refine V_aload_n X (i := 0) 0 dX0_reachOf_13 rfl rfl ?_
  refine G_0_15 X dX0_reachOf_14 ?_
  refine G_0_59 X (inst_Text_48).1 (inst_Text_48).2.1 (Text_r6 inst_Text_48) dX0_reachOf_17 ?_
  refine G_0_75 X (inst_People_80).1 (inst_People_80).2.1 (People_r1 inst_People_80) dX0_reachOf_20 ?_
  refine V_iload_n X (i := 1) 1 dX0_reachOf_23 rfl rfl ?_
  obtain ⟨g2, h⟩ := h
  refine V_iald_c X (rfl : SLq 82 = 8) (by decide) (rfl : SK 82 = 14) g2 dX0_reachOf_24 ?_
  refine V_iload_n X (i := 2) 2 dX0_reachOf_25 rfl rfl ?_
  refine V_iload_n X (i := 3) 3 dX0_reachOf_26 rfl rfl ?_
  refine V_iload X (i := 4) 4 dX0_reachOf_27 rfl ?_
  refine K_0_reach X (Or.inl q_920) h ⟨Nat.le_of_ble_eq_true rfl, Nat.le_of_ble_eq_true rfl⟩ ⟨Nat.zero_le _, Nat.zero_le _⟩ (st1 := []) (Nat.le_of_ble_eq_true rfl) dX0_reachOf_29 (fun r4 w3 h => ?_)
  exact V_iret_c X hr dX0_reachOf_32 h
theorem c_0_reachOf {a1 : Int32} {a2 : Int32} {a3 : Int32} {a4 : Int32} (hinj : INJ ad) {w : Mem} {Q : Int32 → Mem → Prop} (h : wp_0_reachOf a1 a2 a3 a4 w Q) : Met l yX0_reachOf (TBq yX0_reachOf cX0_reachOf 5 (some .int)) (RM 4) (va_Pc [.ref (ad 87), .int a1, .int a2, .int a3, .int a4] (PB ad cy D (cmb w wm) wl0)) (va_Qi Q (BC ad cy D wm wl0) (AW ad)) 0 0 (AW ad) := M_enter (by decide) (Nat.le_of_ble_eq_true rfl) hinj (fun p e s m args below meth c X hr => v_0_reachOf X hr h)
theorem mf_0_reachOf : MFV yX0_reachOf cX0_reachOf 5 (some .int) yX0_reachOf.cls 4 := ⟨q_919, q_917, q_918, q_8, by decide⟩
theorem K_0_reachOf {own : String} {idx : Nat} {a1 : Int32} {a2 : Int32} {a3 : Int32} {a4 : Int32} (X : CXq p s m args meth c cc nL own ad cy D A H0) (hL : LK own idx yX0_reachOf) {w : Mem} {Q : Int32 → Mem → Prop} (h : wp_0_reachOf a1 a2 a3 a4 w Q) (hR : (RM 4).frames + 1 ≤ R.frames ∧ 8 + (5 + 11) + (RM 4).locals ≤ R.locals) (hce : ce ≤ R.cells ∧ sl ≤ R.slots) (hcat : (st1.map fun v => v.category).sum ≤ 8) (hd : decode cc pc = .ok (.invokevirtual idx, 3)) (kk : ∀ (r : Int32) (u : Mem), Q r u → V p l e R s m args below meth c nL ad cy D A H0 ce sl Qs u wm wl0 (pc + 3) ls (.int r :: st1)) : V p l e R s m args below meth c nL ad cy D A H0 ce sl Qs w wm wl0 pc ls (.int a4 :: .int a3 :: .int a2 :: .int a1 :: .ref (ad 87) :: st1) := V_callVI_c X mf_0_reachOf hL (rfl : vwCl[0]? = some (RX0, TX0, 8)) (by decide) (rfl : SK 87 = 0) (Nat.lt_of_lt_of_le (by decide : 87 < 150) (CX_nn X)) (c_0_reachOf X.2.2.2.2.2.2.2.1 h) (As := [.int a1, .int a2, .int a3, .int a4]) rfl ⟨rfl, rfl⟩ hR hce st1 rfl hcat hd kk
set_option maxRecDepth 20000 in
theorem v_11_styleOf_b101 (X : CXq p s m args meth c cX11_styleOf 10 yX11_styleOf.cls ad cy D (AW ad) s.heap) (hr : meth.sig.returnType = (some .int)) {b1 nb1 : Nat} (hb1 : isArr b1 14 nb1) {Q : Int32 → Mem → Prop} : ∀ (l4 : Int32) (l5 : Int32) (l6 : Int32) (l7 : Int32) (w : Mem), wp_11_styleOf_b101 b1 nb1 Q l4 l5 l6 l7 w → V p l e (RM 2) s m args below meth c 10 ad cy D (AW ad) s.heap 0 0 (MQ below (va_Qi Q (BC ad cy D wm wl0) (AW ad)) args s 0 0 (AW ad)) w wm wl0 101 [(4, .int l4), (5, .int l5), (6, .int l6), (7, .int l7)] [] := by
  intro l4 l5 l6 l7 w h
  unfold wp_11_styleOf_b101 at h
  refine V_iload X (i := 5) 1 dX11_styleOf_101 rfl ?_
  refine V_iconst X (v := (3 : Int32)) dX11_styleOf_103 (by decide) ?_
  obtain ⟨ht, hf⟩ := h
  refine V_icmp_lt X (tgt := 118) dX11_styleOf_104 (by decide) (fun c => ?_) (fun c => ?_)
  · have h := ht c
    refine V_iload X (i := 4) 0 dX11_styleOf_118 rfl ?_
    exact V_iret_c X hr dX11_styleOf_120 h
  · have h := hf c
    refine V_iload X (i := 4) 0 dX11_styleOf_107 rfl ?_
    refine V_iload X (i := 6) 2 dX11_styleOf_109 rfl ?_
    refine V_isub X dX11_styleOf_111 ?_
    refine V_iload X (i := 7) 3 dX11_styleOf_112 rfl ?_
    refine V_isub X dX11_styleOf_114 ?_
    refine V_goto X (tgt := 120) dX11_styleOf_115 (by decide) ?_
    exact V_iret_c X hr dX11_styleOf_120 h
set_option maxRecDepth 20000 in
theorem v_11_styleOf_b95 (X : CXq p s m args meth c cX11_styleOf 10 yX11_styleOf.cls ad cy D (AW ad) s.heap) (hr : meth.sig.returnType = (some .int)) {b1 nb1 : Nat} (hb1 : isArr b1 14 nb1) {Q : Int32 → Mem → Prop} {L15 : Int32 → Int32 → Int32 → Int32 → Int32 → Int32 → Int32 → Int32 → Mem → Prop} (HL15 : ∀ (l1 : Int32) (l2 : Int32) (l3 : Int32) (l4 : Int32) (l5 : Int32) (l6 : Int32) (l7 : Int32) (l8 : Int32) (w : Mem), L15 l1 l2 l3 l4 l5 l6 l7 l8 w → V p l e (RM 2) s m args below meth c 10 ad cy D (AW ad) s.heap 0 0 (MQ below (va_Qi Q (BC ad cy D wm wl0) (AW ad)) args s 0 0 (AW ad)) w wm wl0 15 [(0, .ref (ad b1)), (1, .int l1), (2, .int l2), (3, .int l3), (4, .int l4), (5, .int l5), (6, .int l6), (7, .int l7), (8, .int l8)] []) : ∀ (l1 : Int32) (l2 : Int32) (l3 : Int32) (l4 : Int32) (l5 : Int32) (l6 : Int32) (l7 : Int32) (l8 : Int32) (w : Mem), wp_11_styleOf_b95 b1 nb1 Q L15 l1 l2 l3 l4 l5 l6 l7 l8 w → V p l e (RM 2) s m args below meth c 10 ad cy D (AW ad) s.heap 0 0 (MQ below (va_Qi Q (BC ad cy D wm wl0) (AW ad)) args s 0 0 (AW ad)) w wm wl0 95 [(0, .ref (ad b1)), (1, .int l1), (2, .int l2), (3, .int l3), (4, .int l4), (5, .int l5), (6, .int l6), (7, .int l7), (8, .int l8)] [] := by
  intro l1 l2 l3 l4 l5 l6 l7 l8 w h
  unfold wp_11_styleOf_b95 at h
  obtain ⟨x1, ex1⟩ : ∃ y : Int32, y = l8 + (1 : Int32) := ⟨_, rfl⟩
  have h := h x1 ex1
  refine V_iinc X 8 dX11_styleOf_95 rfl (by decide) (by rw [ex1]; rfl) (ls1 := [(8, .int x1), (0, .ref (ad b1)), (1, .int l1), (2, .int l2), (3, .int l3), (4, .int l4), (5, .int l5), (6, .int l6), (7, .int l7)]) rfl ?_
  refine V_goto X (tgt := 15) dX11_styleOf_98 (by decide) ?_
  refine V_sub X (ls1 := [(0, .ref (ad b1)), (1, .int l1), (2, .int l2), (3, .int l3), (4, .int l4), (5, .int l5), (6, .int l6), (7, .int l7), (8, .int x1)]) [1, 2, 3, 4, 5, 6, 7, 8, 0] rfl ?_
  exact HL15 _ _ _ _ _ _ _ _ _ h
set_option maxRecDepth 20000 in
theorem v_11_styleOf_b83 (X : CXq p s m args meth c cX11_styleOf 10 yX11_styleOf.cls ad cy D (AW ad) s.heap) (hr : meth.sig.returnType = (some .int)) {b1 nb1 : Nat} (hb1 : isArr b1 14 nb1) {Q : Int32 → Mem → Prop} {L15 : Int32 → Int32 → Int32 → Int32 → Int32 → Int32 → Int32 → Int32 → Mem → Prop} (HL15 : ∀ (l1 : Int32) (l2 : Int32) (l3 : Int32) (l4 : Int32) (l5 : Int32) (l6 : Int32) (l7 : Int32) (l8 : Int32) (w : Mem), L15 l1 l2 l3 l4 l5 l6 l7 l8 w → V p l e (RM 2) s m args below meth c 10 ad cy D (AW ad) s.heap 0 0 (MQ below (va_Qi Q (BC ad cy D wm wl0) (AW ad)) args s 0 0 (AW ad)) w wm wl0 15 [(0, .ref (ad b1)), (1, .int l1), (2, .int l2), (3, .int l3), (4, .int l4), (5, .int l5), (6, .int l6), (7, .int l7), (8, .int l8)] []) : ∀ (l1 : Int32) (l2 : Int32) (l3 : Int32) (l4 : Int32) (l5 : Int32) (l6 : Int32) (l8 : Int32) (l9 : Int32) (s0 : Int32) (w : Mem), wp_11_styleOf_b83 b1 nb1 Q L15 l1 l2 l3 l4 l5 l6 l8 l9 s0 w → V p l e (RM 2) s m args below meth c 10 ad cy D (AW ad) s.heap 0 0 (MQ below (va_Qi Q (BC ad cy D wm wl0) (AW ad)) args s 0 0 (AW ad)) w wm wl0 83 [(0, .ref (ad b1)), (1, .int l1), (2, .int l2), (3, .int l3), (4, .int l4), (5, .int l5), (6, .int l6), (8, .int l8), (9, .int l9)] [.int s0] := by
  intro l1 l2 l3 l4 l5 l6 l8 l9 s0 w h
  unfold wp_11_styleOf_b83 at h
  refine V_istore X dX11_styleOf_83 (by decide) rfl (ls1 := [(7, .int s0), (0, .ref (ad b1)), (1, .int l1), (2, .int l2), (3, .int l3), (4, .int l4), (5, .int l5), (6, .int l6), (8, .int l8), (9, .int l9)]) rfl ?_
  refine V_iload X (i := 4) 5 dX11_styleOf_85 rfl ?_
  refine V_iload X (i := 9) 9 dX11_styleOf_87 rfl ?_
  refine V_iadd X dX11_styleOf_89 ?_
  obtain ⟨x1, ex1⟩ : ∃ y : Int32, y = (l4 + l9) := ⟨_, rfl⟩
  have h := h x1 ex1
  refine V_istore X dX11_styleOf_90 (by decide) ex1 (ls1 := [(4, .int x1), (7, .int s0), (0, .ref (ad b1)), (1, .int l1), (2, .int l2), (3, .int l3), (5, .int l5), (6, .int l6), (8, .int l8), (9, .int l9)]) rfl ?_
  obtain ⟨x2, ex2⟩ : ∃ y : Int32, y = l5 + (1 : Int32) := ⟨_, rfl⟩
  have h := h x2 ex2
  refine V_iinc X 6 dX11_styleOf_92 rfl (by decide) (by rw [ex2]; rfl) (ls1 := [(5, .int x2), (4, .int x1), (7, .int s0), (0, .ref (ad b1)), (1, .int l1), (2, .int l2), (3, .int l3), (6, .int l6), (8, .int l8), (9, .int l9)]) rfl ?_
  refine V_sub X (ls1 := [(0, .ref (ad b1)), (1, .int l1), (2, .int l2), (3, .int l3), (4, .int x1), (5, .int x2), (6, .int l6), (7, .int s0), (8, .int l8)]) [3, 4, 5, 6, 1, 0, 7, 2, 8] rfl ?_
  exact v_11_styleOf_b95 X hr hb1 HL15 _ _ _ _ _ _ _ _ _ h
set_option maxRecDepth 20000 in
theorem v_11_styleOf_b64 (X : CXq p s m args meth c cX11_styleOf 10 yX11_styleOf.cls ad cy D (AW ad) s.heap) (hr : meth.sig.returnType = (some .int)) {b1 nb1 : Nat} (hb1 : isArr b1 14 nb1) {Q : Int32 → Mem → Prop} {L15 : Int32 → Int32 → Int32 → Int32 → Int32 → Int32 → Int32 → Int32 → Mem → Prop} (HL15 : ∀ (l1 : Int32) (l2 : Int32) (l3 : Int32) (l4 : Int32) (l5 : Int32) (l6 : Int32) (l7 : Int32) (l8 : Int32) (w : Mem), L15 l1 l2 l3 l4 l5 l6 l7 l8 w → V p l e (RM 2) s m args below meth c 10 ad cy D (AW ad) s.heap 0 0 (MQ below (va_Qi Q (BC ad cy D wm wl0) (AW ad)) args s 0 0 (AW ad)) w wm wl0 15 [(0, .ref (ad b1)), (1, .int l1), (2, .int l2), (3, .int l3), (4, .int l4), (5, .int l5), (6, .int l6), (7, .int l7), (8, .int l8)] []) : ∀ (l1 : Int32) (l2 : Int32) (l3 : Int32) (l4 : Int32) (l5 : Int32) (l7 : Int32) (l8 : Int32) (l9 : Int32) (s0 : Int32) (w : Mem), wp_11_styleOf_b64 b1 nb1 Q L15 l1 l2 l3 l4 l5 l7 l8 l9 s0 w → V p l e (RM 2) s m args below meth c 10 ad cy D (AW ad) s.heap 0 0 (MQ below (va_Qi Q (BC ad cy D wm wl0) (AW ad)) args s 0 0 (AW ad)) w wm wl0 64 [(0, .ref (ad b1)), (1, .int l1), (2, .int l2), (3, .int l3), (4, .int l4), (5, .int l5), (7, .int l7), (8, .int l8), (9, .int l9)] [.int s0] := by
  intro l1 l2 l3 l4 l5 l7 l8 l9 s0 w h
  unfold wp_11_styleOf_b64 at h
  refine V_istore X dX11_styleOf_64 (by decide) rfl (ls1 := [(6, .int s0), (0, .ref (ad b1)), (1, .int l1), (2, .int l2), (3, .int l3), (4, .int l4), (5, .int l5), (7, .int l7), (8, .int l8), (9, .int l9)]) rfl ?_
  refine V_iload X (i := 5) 6 dX11_styleOf_66 rfl ?_
  obtain ⟨ht, hf⟩ := h
  refine V_if_ne X (tgt := 76) dX11_styleOf_68 (by decide) (fun c => ?_) (fun c => ?_)
  · have h := ht c
    refine V_iload X (i := 7) 7 dX11_styleOf_76 rfl ?_
    refine V_iload X (i := 9) 9 dX11_styleOf_78 rfl ?_
    refine V_mmin X dX11_styleOf_80 q_818 q_645 q_19 q_646 (Nat.le_of_ble_eq_true rfl) (Nat.le_of_ble_eq_true rfl) (Nat.zero_le _) (Nat.zero_le _) ?_
    refine V_sub X (ls1 := [(0, .ref (ad b1)), (1, .int l1), (2, .int l2), (3, .int l3), (4, .int l4), (5, .int l5), (6, .int s0), (8, .int l8), (9, .int l9)]) [1, 2, 3, 4, 5, 6, 0, 8, 9] rfl ?_
    exact v_11_styleOf_b83 X hr hb1 HL15 _ _ _ _ _ _ _ _ _ _ h
  · have h := hf c
    refine V_iload X (i := 9) 9 dX11_styleOf_71 rfl ?_
    refine V_goto X (tgt := 83) dX11_styleOf_73 (by decide) ?_
    refine V_sub X (ls1 := [(0, .ref (ad b1)), (1, .int l1), (2, .int l2), (3, .int l3), (4, .int l4), (5, .int l5), (6, .int s0), (8, .int l8), (9, .int l9)]) [1, 2, 3, 4, 5, 6, 0, 8, 9] rfl ?_
    exact v_11_styleOf_b83 X hr hb1 HL15 _ _ _ _ _ _ _ _ _ _ h
set_option maxRecDepth 20000 in
theorem v_11_styleOf_b15 (X : CXq p s m args meth c cX11_styleOf 10 yX11_styleOf.cls ad cy D (AW ad) s.heap) (hr : meth.sig.returnType = (some .int)) {b1 nb1 : Nat} (hb1 : isArr b1 14 nb1) {Q : Int32 → Mem → Prop} : ∀ (n : Nat) (l1 : Int32) (l2 : Int32) (l3 : Int32) (l4 : Int32) (l5 : Int32) (l6 : Int32) (l7 : Int32) (l8 : Int32) (w : Mem), wp_11_styleOf_b15 b1 nb1 Q n l1 l2 l3 l4 l5 l6 l7 l8 w → V p l e (RM 2) s m args below meth c 10 ad cy D (AW ad) s.heap 0 0 (MQ below (va_Qi Q (BC ad cy D wm wl0) (AW ad)) args s 0 0 (AW ad)) w wm wl0 15 [(0, .ref (ad b1)), (1, .int l1), (2, .int l2), (3, .int l3), (4, .int l4), (5, .int l5), (6, .int l6), (7, .int l7), (8, .int l8)] [] := by
  intro n
  induction n with
  | zero =>
    intro l1 l2 l3 l4 l5 l6 l7 l8 w h
    exact h.elim
  | succ n ih =>
    intro l1 l2 l3 l4 l5 l6 l7 l8 w h
    unfold wp_11_styleOf_b15 at h
    refine V_iload X (i := 8) 8 dX11_styleOf_15 rfl ?_
    refine V_iload_n X (i := 2) 2 dX11_styleOf_17 rfl rfl ?_
    obtain ⟨ht, hf⟩ := h
    refine V_icmp_ge X (tgt := 101) dX11_styleOf_18 (by decide) (fun c => ?_) (fun c => ?_)
    · have h := ht c
      refine V_sub X (ls1 := [(4, .int l4), (5, .int l5), (6, .int l6), (7, .int l7)]) [4, 5, 6, 7] rfl ?_
      exact v_11_styleOf_b101 X hr hb1 _ _ _ _ _ h
    · have h := hf c
      refine V_iload_n X (i := 1) 1 dX11_styleOf_21 rfl rfl ?_
      refine V_iload X (i := 8) 8 dX11_styleOf_22 rfl ?_
      refine V_iadd X dX11_styleOf_24 ?_
      refine V_aload_n X (i := 0) 0 dX11_styleOf_25 rfl rfl ?_
      refine V_alen_c X (hb1).2.1 (hb1).2.2 (hb1).1 (by decide) dX11_styleOf_26 ?_
      obtain ⟨ht, hf⟩ := h
      refine V_icmp_ge X (tgt := 101) dX11_styleOf_27 (by decide) (fun c => ?_) (fun c => ?_)
      · have h := ht c
        refine V_sub X (ls1 := [(4, .int l4), (5, .int l5), (6, .int l6), (7, .int l7)]) [4, 5, 6, 7] rfl ?_
        exact v_11_styleOf_b101 X hr hb1 _ _ _ _ _ h
      · have h := hf c
        refine V_iload X (i := 8) 8 dX11_styleOf_30 rfl ?_
        refine V_iload_n X (i := 3) 3 dX11_styleOf_32 rfl rfl ?_
        obtain ⟨ht, hf⟩ := h
        refine V_icmp_ne X (tgt := 39) dX11_styleOf_33 (by decide) (fun c => ?_) (fun c => ?_)
        · have h := ht c
          refine V_aload_n X (i := 0) 0 dX11_styleOf_39 rfl rfl ?_
          refine V_iload_n X (i := 1) 1 dX11_styleOf_40 rfl rfl ?_
          refine V_iload X (i := 8) 8 dX11_styleOf_41 rfl ?_
          refine V_iadd X dX11_styleOf_43 ?_
          obtain ⟨g1, h⟩ := h
          refine V_iald_c X (hb1).2.1 (hb1).2.2 (hb1).1 g1 dX11_styleOf_44 ?_
          obtain ⟨x2, ex2⟩ : ∃ y : Int32, y = (w b1 (ix (l1 + l8))) := ⟨_, rfl⟩
          have h := h x2 ex2
          refine V_istore X dX11_styleOf_45 (by decide) ex2 (ls1 := [(9, .int x2), (0, .ref (ad b1)), (1, .int l1), (2, .int l2), (3, .int l3), (4, .int l4), (5, .int l5), (6, .int l6), (7, .int l7), (8, .int l8)]) rfl ?_
          refine V_iload X (i := 5) 6 dX11_styleOf_47 rfl ?_
          obtain ⟨ht, hf⟩ := h
          refine V_if_ne X (tgt := 57) dX11_styleOf_49 (by decide) (fun c => ?_) (fun c => ?_)
          · have h := ht c
            refine V_iload X (i := 6) 7 dX11_styleOf_57 rfl ?_
            refine V_iload X (i := 9) 0 dX11_styleOf_59 rfl ?_
            refine V_mmax X dX11_styleOf_61 q_819 q_642 q_19 q_643 (Nat.le_of_ble_eq_true rfl) (Nat.le_of_ble_eq_true rfl) (Nat.zero_le _) (Nat.zero_le _) ?_
            refine V_sub X (ls1 := [(0, .ref (ad b1)), (1, .int l1), (2, .int l2), (3, .int l3), (4, .int l4), (5, .int l5), (7, .int l7), (8, .int l8), (9, .int x2)]) [1, 2, 3, 4, 5, 6, 8, 9, 0] rfl ?_
            exact v_11_styleOf_b64 X hr hb1 ih _ _ _ _ _ _ _ _ _ _ h
          · have h := hf c
            refine V_iload X (i := 9) 0 dX11_styleOf_52 rfl ?_
            refine V_goto X (tgt := 64) dX11_styleOf_54 (by decide) ?_
            refine V_sub X (ls1 := [(0, .ref (ad b1)), (1, .int l1), (2, .int l2), (3, .int l3), (4, .int l4), (5, .int l5), (7, .int l7), (8, .int l8), (9, .int x2)]) [1, 2, 3, 4, 5, 6, 8, 9, 0] rfl ?_
            exact v_11_styleOf_b64 X hr hb1 ih _ _ _ _ _ _ _ _ _ _ h
        · have h := hf c
          refine V_goto X (tgt := 95) dX11_styleOf_36 (by decide) ?_
          refine V_sub X (ls1 := [(0, .ref (ad b1)), (1, .int l1), (2, .int l2), (3, .int l3), (4, .int l4), (5, .int l5), (6, .int l6), (7, .int l7), (8, .int l8)]) [0, 1, 2, 3, 4, 5, 6, 7, 8] rfl ?_
          exact v_11_styleOf_b95 X hr hb1 ih _ _ _ _ _ _ _ _ _ h
set_option maxRecDepth 20000 in
theorem v_11_styleOf {b1 nb1 : Nat} {a2 : Int32} {a3 : Int32} {a4 : Int32} (X : CXq p s m args meth c cX11_styleOf 10 yX11_styleOf.cls ad cy D (AW ad) s.heap) (hr : meth.sig.returnType = (some .int)) (hb1 : isArr b1 14 nb1) {w : Mem} {Q : Int32 → Mem → Prop} (h : wp_11_styleOf b1 nb1 a2 a3 a4 w Q) : V p l e (RM 2) s m args below meth c 10 ad cy D (AW ad) s.heap 0 0 (MQ below (va_Qi Q (BC ad cy D wm wl0) (AW ad)) args s 0 0 (AW ad)) w wm wl0 0 [(0, .ref (ad b1)), (1, .int a2), (2, .int a3), (3, .int a4)] [] := by
  unfold wp_11_styleOf at h
  refine V_iconst X (v := (0 : Int32)) dX11_styleOf_0 (by decide) ?_
  refine V_istore X dX11_styleOf_1 (by decide) rfl (ls1 := [(4, .int (0 : Int32)), (0, .ref (ad b1)), (1, .int a2), (2, .int a3), (3, .int a4)]) rfl ?_
  refine V_iconst X (v := (0 : Int32)) dX11_styleOf_3 (by decide) ?_
  refine V_istore X dX11_styleOf_4 (by decide) rfl (ls1 := [(5, .int (0 : Int32)), (4, .int (0 : Int32)), (0, .ref (ad b1)), (1, .int a2), (2, .int a3), (3, .int a4)]) rfl ?_
  refine V_iconst X (v := (0 : Int32)) dX11_styleOf_6 (by decide) ?_
  refine V_istore X dX11_styleOf_7 (by decide) rfl (ls1 := [(6, .int (0 : Int32)), (5, .int (0 : Int32)), (4, .int (0 : Int32)), (0, .ref (ad b1)), (1, .int a2), (2, .int a3), (3, .int a4)]) rfl ?_
  refine V_iconst X (v := (0 : Int32)) dX11_styleOf_9 (by decide) ?_
  refine V_istore X dX11_styleOf_10 (by decide) rfl (ls1 := [(7, .int (0 : Int32)), (6, .int (0 : Int32)), (5, .int (0 : Int32)), (4, .int (0 : Int32)), (0, .ref (ad b1)), (1, .int a2), (2, .int a3), (3, .int a4)]) rfl ?_
  refine V_iconst X (v := (0 : Int32)) dX11_styleOf_12 (by decide) ?_
  refine V_istore X dX11_styleOf_13 (by decide) rfl (ls1 := [(8, .int (0 : Int32)), (7, .int (0 : Int32)), (6, .int (0 : Int32)), (5, .int (0 : Int32)), (4, .int (0 : Int32)), (0, .ref (ad b1)), (1, .int a2), (2, .int a3), (3, .int a4)]) rfl ?_
  refine V_sub X (ls1 := [(0, .ref (ad b1)), (1, .int a2), (2, .int a3), (3, .int a4), (4, .int (0 : Int32)), (5, .int (0 : Int32)), (6, .int (0 : Int32)), (7, .int (0 : Int32)), (8, .int (0 : Int32))]) [5, 6, 7, 8, 4, 3, 2, 1, 0] rfl ?_
  obtain ⟨nn, h⟩ := h
  exact v_11_styleOf_b15 X hr hb1 nn _ _ _ _ _ _ _ _ _ h
theorem c_11_styleOf {b1 nb1 : Nat} {a2 : Int32} {a3 : Int32} {a4 : Int32} (hinj : INJ ad) (hb1 : isArr b1 14 nb1) {w : Mem} {Q : Int32 → Mem → Prop} (h : wp_11_styleOf b1 nb1 a2 a3 a4 w Q) : Met l yX11_styleOf (TBq yX11_styleOf cX11_styleOf 10 (some .int)) (RM 2) (va_Pc [.ref (ad b1), .int a2, .int a3, .int a4] (PB ad cy D (cmb w wm) wl0)) (va_Qi Q (BC ad cy D wm wl0) (AW ad)) 0 0 (AW ad) := M_enter (by decide) (Nat.le_of_ble_eq_true rfl) hinj (fun p e s m args below meth c X hr => v_11_styleOf X hr hb1 h)
theorem mf_11_styleOf : MFS yX11_styleOf cX11_styleOf 10 (some .int) 4 := ⟨q_930, q_929, q_1, by decide⟩
theorem K_11_styleOf {own : String} {idx : Nat} {b1 nb1 : Nat} {a2 : Int32} {a3 : Int32} {a4 : Int32} (X : CXq p s m args meth c cc nL own ad cy D A H0) (hL : LK own idx yX11_styleOf) (hb1 : isArr b1 14 nb1) {w : Mem} {Q : Int32 → Mem → Prop} (h : wp_11_styleOf b1 nb1 a2 a3 a4 w Q) (hR : (RM 2).frames + 1 ≤ R.frames ∧ 8 + (10 + 11) + (RM 2).locals ≤ R.locals) (hce : ce ≤ R.cells ∧ sl ≤ R.slots) (hcat : (st1.map fun v => v.category).sum ≤ 8) (hd : decode cc pc = .ok (.invokestatic idx, 3)) (kk : ∀ (r : Int32) (u : Mem), Q r u → V p l e R s m args below meth c nL ad cy D A H0 ce sl Qs u wm wl0 (pc + 3) ls (.int r :: st1)) : V p l e R s m args below meth c nL ad cy D A H0 ce sl Qs w wm wl0 pc ls (.int a4 :: .int a3 :: .int a2 :: .ref (ad b1) :: st1) := V_callSI_c X mf_11_styleOf hL (c_11_styleOf X.2.2.2.2.2.2.2.1 hb1 h) (As := [.ref (ad b1), .int a2, .int a3, .int a4]) rfl ⟨rfl, rfl⟩ hR hce st1 rfl hcat hd kk
set_option maxRecDepth 20000 in
theorem v_0_givenFor {a1 : Int32} (X : CXq p s m args meth c cX0_givenFor 2 yX0_givenFor.cls ad cy D (AW ad) s.heap) (hr : meth.sig.returnType = (some .int)) {w : Mem} {Q : Int32 → Mem → Prop} (h : wp_0_givenFor a1 w Q) : V p l e (RM 3) s m args below meth c 2 ad cy D (AW ad) s.heap 0 0 (MQ below (va_Qi Q (BC ad cy D wm wl0) (AW ad)) args s 0 0 (AW ad)) w wm wl0 0 [(0, .ref (ad 87)), (1, .int a1)] [] := by
  unfold wp_0_givenFor at h
  refine V_aload_n X (i := 0) 0 dX0_givenFor_0 rfl rfl ?_
  refine G_0_15 X dX0_givenFor_1 ?_
  refine G_0_127 X (inst_Text_48).1 (inst_Text_48).2.1 (Text_r2 inst_Text_48) dX0_givenFor_4 ?_
  refine V_iconst X (v := (2 : Int32)) dX0_givenFor_7 (by decide) ?_
  refine V_iload_n X (i := 1) 1 dX0_givenFor_8 rfl rfl ?_
  refine K_2_set X (Or.inl q_791) inst_Law_61 h ⟨Nat.le_of_ble_eq_true rfl, Nat.le_of_ble_eq_true rfl⟩ ⟨Nat.zero_le _, Nat.zero_le _⟩ (st1 := []) (Nat.le_of_ble_eq_true rfl) dX0_givenFor_9 (fun w1 h => ?_)
  refine V_aload_n X (i := 0) 0 dX0_givenFor_12 rfl rfl ?_
  refine G_0_15 X dX0_givenFor_13 ?_
  refine G_0_127 X (inst_Text_48).1 (inst_Text_48).2.1 (Text_r2 inst_Text_48) dX0_givenFor_16 ?_
  refine K_2_tells X (Or.inl q_803) inst_Law_61 h ⟨Nat.le_of_ble_eq_true rfl, Nat.le_of_ble_eq_true rfl⟩ ⟨Nat.zero_le _, Nat.zero_le _⟩ (st1 := []) (Nat.le_of_ble_eq_true rfl) dX0_givenFor_19 (fun r3 w2 h => ?_)
  refine V_sipush X (v := (-999 : Int32)) dX0_givenFor_22 (by decide) ?_
  refine V_sipush X (v := (999 : Int32)) dX0_givenFor_25 (by decide) ?_
  refine K_11_held X (Or.inr ⟨_, q_815⟩) h ⟨Nat.le_of_ble_eq_true rfl, Nat.le_of_ble_eq_true rfl⟩ ⟨Nat.zero_le _, Nat.zero_le _⟩ (st1 := []) (Nat.le_of_ble_eq_true rfl) dX0_givenFor_28 (fun r5 w4 h => ?_)
  exact V_iret_c X hr dX0_givenFor_31 h
theorem c_0_givenFor {a1 : Int32} (hinj : INJ ad) {w : Mem} {Q : Int32 → Mem → Prop} (h : wp_0_givenFor a1 w Q) : Met l yX0_givenFor (TBq yX0_givenFor cX0_givenFor 2 (some .int)) (RM 3) (va_Pc [.ref (ad 87), .int a1] (PB ad cy D (cmb w wm) wl0)) (va_Qi Q (BC ad cy D wm wl0) (AW ad)) 0 0 (AW ad) := M_enter (by decide) (Nat.le_of_ble_eq_true rfl) hinj (fun p e s m args below meth c X hr => v_0_givenFor X hr h)
theorem mf_0_givenFor : MFV yX0_givenFor cX0_givenFor 2 (some .int) yX0_givenFor.cls 1 := ⟨q_934, q_932, q_933, q_8, by decide⟩
theorem K_0_givenFor {own : String} {idx : Nat} {a1 : Int32} (X : CXq p s m args meth c cc nL own ad cy D A H0) (hL : LK own idx yX0_givenFor) {w : Mem} {Q : Int32 → Mem → Prop} (h : wp_0_givenFor a1 w Q) (hR : (RM 3).frames + 1 ≤ R.frames ∧ 8 + (2 + 11) + (RM 3).locals ≤ R.locals) (hce : ce ≤ R.cells ∧ sl ≤ R.slots) (hcat : (st1.map fun v => v.category).sum ≤ 8) (hd : decode cc pc = .ok (.invokevirtual idx, 3)) (kk : ∀ (r : Int32) (u : Mem), Q r u → V p l e R s m args below meth c nL ad cy D A H0 ce sl Qs u wm wl0 (pc + 3) ls (.int r :: st1)) : V p l e R s m args below meth c nL ad cy D A H0 ce sl Qs w wm wl0 pc ls (.int a1 :: .ref (ad 87) :: st1) := V_callVI_c X mf_0_givenFor hL (rfl : vwCl[0]? = some (RX0, TX0, 8)) (by decide) (rfl : SK 87 = 0) (Nat.lt_of_lt_of_le (by decide : 87 < 150) (CX_nn X)) (c_0_givenFor X.2.2.2.2.2.2.2.1 h) (As := [.int a1]) rfl ⟨rfl, rfl⟩ hR hce st1 rfl hcat hd kk
set_option maxRecDepth 20000 in
theorem v_0_pointsFor {a1 : Int32} {a2 : Int32} {a3 : Int32} {a4 : Int32} (X : CXq p s m args meth c cX0_pointsFor 6 yX0_pointsFor.cls ad cy D (AW ad) s.heap) (hr : meth.sig.returnType = (some .int)) {w : Mem} {Q : Int32 → Mem → Prop} (h : wp_0_pointsFor a1 a2 a3 a4 w Q) : V p l e (RM 2) s m args below meth c 6 ad cy D (AW ad) s.heap 0 0 (MQ below (va_Qi Q (BC ad cy D wm wl0) (AW ad)) args s 0 0 (AW ad)) w wm wl0 0 [(0, .ref (ad 87)), (1, .int a1), (2, .int a2), (3, .int a3), (4, .int a4)] [] := by
  unfold wp_0_pointsFor at h
  refine V_aload_n X (i := 0) 0 dX0_pointsFor_0 rfl rfl ?_
  refine G_0_15 X dX0_pointsFor_1 ?_
  refine G_0_130 X (inst_Text_48).1 (inst_Text_48).2.1 (Text_r9 inst_Text_48) dX0_pointsFor_4 ?_
  refine V_iload_n X (i := 1) 1 dX0_pointsFor_7 rfl rfl ?_
  refine V_aload_n X (i := 0) 0 dX0_pointsFor_8 rfl rfl ?_
  refine G_0_15 X dX0_pointsFor_9 ?_
  refine G_0_133 X (inst_Text_48).1 (inst_Text_48).2.1 (Text_r7 inst_Text_48) dX0_pointsFor_12 ?_
  refine V_isub X dX0_pointsFor_15 ?_
  refine V_imul X dX0_pointsFor_16 ?_
  refine V_bipush X (v := (10 : Int32)) dX0_pointsFor_17 (by decide) ?_
  refine V_idiv X dX0_pointsFor_19 (by decide) ?_
  obtain ⟨x1, ex1⟩ : ∃ y : Int32, y = (((w 48 9) * (a1 - (w 48 7))) / (10 : Int32)) := ⟨_, rfl⟩
  have h := h x1 ex1
  refine V_istore X dX0_pointsFor_20 (by decide) ex1 (ls1 := [(5, .int x1), (0, .ref (ad 87)), (1, .int a1), (2, .int a2), (3, .int a3), (4, .int a4)]) rfl ?_
  refine V_iconst X (v := (0 : Int32)) dX0_pointsFor_22 (by decide) ?_
  refine V_sipush X (v := (600 : Int32)) dX0_pointsFor_23 (by decide) ?_
  refine V_iload X (i := 5) 0 dX0_pointsFor_26 rfl ?_
  refine V_iadd X dX0_pointsFor_28 ?_
  refine V_iload_n X (i := 2) 3 dX0_pointsFor_29 rfl rfl ?_
  refine V_iadd X dX0_pointsFor_30 ?_
  refine V_iload_n X (i := 3) 4 dX0_pointsFor_31 rfl rfl ?_
  refine V_iadd X dX0_pointsFor_32 ?_
  refine V_aload_n X (i := 0) 1 dX0_pointsFor_33 rfl rfl ?_
  refine G_0_15 X dX0_pointsFor_34 ?_
  refine G_0_136 X (inst_Text_48).1 (inst_Text_48).2.1 (Text_r15 inst_Text_48) dX0_pointsFor_37 ?_
  refine V_aload_n X (i := 0) 1 dX0_pointsFor_40 rfl rfl ?_
  refine G_0_15 X dX0_pointsFor_41 ?_
  refine G_0_88 X (inst_Text_48).1 (inst_Text_48).2.1 (Text_r14 inst_Text_48) dX0_pointsFor_44 ?_
  refine V_iload X (i := 4) 5 dX0_pointsFor_47 rfl ?_
  refine V_isub X dX0_pointsFor_49 ?_
  refine V_imul X dX0_pointsFor_50 ?_
  refine V_iadd X dX0_pointsFor_51 ?_
  refine V_mmax X dX0_pointsFor_52 q_939 q_642 q_19 q_643 (Nat.le_of_ble_eq_true rfl) (Nat.le_of_ble_eq_true rfl) (Nat.zero_le _) (Nat.zero_le _) ?_
  exact V_iret_c X hr dX0_pointsFor_55 h
theorem c_0_pointsFor {a1 : Int32} {a2 : Int32} {a3 : Int32} {a4 : Int32} (hinj : INJ ad) {w : Mem} {Q : Int32 → Mem → Prop} (h : wp_0_pointsFor a1 a2 a3 a4 w Q) : Met l yX0_pointsFor (TBq yX0_pointsFor cX0_pointsFor 6 (some .int)) (RM 2) (va_Pc [.ref (ad 87), .int a1, .int a2, .int a3, .int a4] (PB ad cy D (cmb w wm) wl0)) (va_Qi Q (BC ad cy D wm wl0) (AW ad)) 0 0 (AW ad) := M_enter (by decide) (Nat.le_of_ble_eq_true rfl) hinj (fun p e s m args below meth c X hr => v_0_pointsFor X hr h)
theorem mf_0_pointsFor : MFV yX0_pointsFor cX0_pointsFor 6 (some .int) yX0_pointsFor.cls 4 := ⟨q_938, q_936, q_937, q_8, by decide⟩
theorem K_0_pointsFor {own : String} {idx : Nat} {a1 : Int32} {a2 : Int32} {a3 : Int32} {a4 : Int32} (X : CXq p s m args meth c cc nL own ad cy D A H0) (hL : LK own idx yX0_pointsFor) {w : Mem} {Q : Int32 → Mem → Prop} (h : wp_0_pointsFor a1 a2 a3 a4 w Q) (hR : (RM 2).frames + 1 ≤ R.frames ∧ 8 + (6 + 11) + (RM 2).locals ≤ R.locals) (hce : ce ≤ R.cells ∧ sl ≤ R.slots) (hcat : (st1.map fun v => v.category).sum ≤ 8) (hd : decode cc pc = .ok (.invokevirtual idx, 3)) (kk : ∀ (r : Int32) (u : Mem), Q r u → V p l e R s m args below meth c nL ad cy D A H0 ce sl Qs u wm wl0 (pc + 3) ls (.int r :: st1)) : V p l e R s m args below meth c nL ad cy D A H0 ce sl Qs w wm wl0 pc ls (.int a4 :: .int a3 :: .int a2 :: .int a1 :: .ref (ad 87) :: st1) := V_callVI_c X mf_0_pointsFor hL (rfl : vwCl[0]? = some (RX0, TX0, 8)) (by decide) (rfl : SK 87 = 0) (Nat.lt_of_lt_of_le (by decide : 87 < 150) (CX_nn X)) (c_0_pointsFor X.2.2.2.2.2.2.2.1 h) (As := [.int a1, .int a2, .int a3, .int a4]) rfl ⟨rfl, rfl⟩ hR hce st1 rfl hcat hd kk
set_option maxRecDepth 20000 in
theorem v_0_judge_b112 (X : CXq p s m args meth c cX0_judge 6 yX0_judge.cls ad cy D (AW ad) s.heap) (hr : meth.sig.returnType = none) {Q : Mem → Prop} {L40 : Int32 → Int32 → Int32 → Mem → Prop} (HL40 : ∀ (l1 : Int32) (l3 : Int32) (l5 : Int32) (w : Mem), L40 l1 l3 l5 w → V p l e (RM 4) s m args below meth c 6 ad cy D (AW ad) s.heap 0 0 (MQ below (va_Qv Q (BC ad cy D wm wl0) (AW ad)) args s 0 0 (AW ad)) w wm wl0 40 [(0, .ref (ad 87)), (1, .int l1), (3, .int l3), (4, .ref (ad 67)), (5, .int l5)] []) : ∀ (l1 : Int32) (l3 : Int32) (l5 : Int32) (s1 : Int32) (s2 : Int32) (w : Mem), wp_0_judge_b112 Q L40 l1 l3 l5 s1 s2 w → V p l e (RM 4) s m args below meth c 6 ad cy D (AW ad) s.heap 0 0 (MQ below (va_Qv Q (BC ad cy D wm wl0) (AW ad)) args s 0 0 (AW ad)) w wm wl0 112 [(0, .ref (ad 87)), (1, .int l1), (3, .int l3), (4, .ref (ad 67)), (5, .int l5)] [.int s2, .int s1, .ref (ad 67)] := by
  intro l1 l3 l5 s1 s2 w h
  unfold wp_0_judge_b112 at h
  refine K_2_set X (Or.inl q_791) inst_Law_67 h ⟨Nat.le_of_ble_eq_true rfl, Nat.le_of_ble_eq_true rfl⟩ ⟨Nat.zero_le _, Nat.zero_le _⟩ (st1 := []) (Nat.le_of_ble_eq_true rfl) dX0_judge_112 (fun w1 h => ?_)
  refine V_aload_n X (i := 0) 0 dX0_judge_115 rfl rfl ?_
  refine G_0_9 X dX0_judge_116 ?_
  refine V_iload X (i := 5) 4 dX0_judge_119 rfl ?_
  refine V_aload X (i := 4) 3 dX0_judge_121 rfl ?_
  refine K_2_tells X (Or.inl q_803) inst_Law_67 h ⟨Nat.le_of_ble_eq_true rfl, Nat.le_of_ble_eq_true rfl⟩ ⟨Nat.zero_le _, Nat.zero_le _⟩ (st1 := [.int l5, .ref (ad 88)]) (Nat.le_of_ble_eq_true rfl) dX0_judge_123 (fun r3 w2 h => ?_)
  refine V_iconst X (v := (0 : Int32)) dX0_judge_126 (by decide) ?_
  refine V_sipush X (v := (200 : Int32)) dX0_judge_127 (by decide) ?_
  refine K_11_held X (Or.inr ⟨_, q_815⟩) h ⟨Nat.le_of_ble_eq_true rfl, Nat.le_of_ble_eq_true rfl⟩ ⟨Nat.zero_le _, Nat.zero_le _⟩ (st1 := [.int l5, .ref (ad 88)]) (Nat.le_of_ble_eq_true rfl) dX0_judge_130 (fun r5 w4 h => ?_)
  obtain ⟨g6, h⟩ := h
  obtain ⟨w7, ew7⟩ : ∃ y : Mem, y = st w4 88 (ix l5) r5 := ⟨_, rfl⟩
  have h := h w7 ew7
  refine V_iast_c X (rfl : SLq 88 = 7) (by decide) (rfl : SK 88 = 14) g6 dX0_judge_133 ew7 ?_
  obtain ⟨x8, ex8⟩ : ∃ y : Int32, y = l5 + (1 : Int32) := ⟨_, rfl⟩
  have h := h x8 ex8
  refine V_iinc X 4 dX0_judge_134 rfl (by decide) (by rw [ex8]; rfl) (ls1 := [(5, .int x8), (0, .ref (ad 87)), (1, .int l1), (3, .int l3), (4, .ref (ad 67))]) rfl ?_
  refine V_goto X (tgt := 40) dX0_judge_137 (by decide) ?_
  refine V_sub X (ls1 := [(0, .ref (ad 87)), (1, .int l1), (3, .int l3), (4, .ref (ad 67)), (5, .int x8)]) [1, 2, 3, 4, 0] rfl ?_
  exact HL40 _ _ _ _ h
set_option maxRecDepth 20000 in
theorem v_0_judge_b40 (X : CXq p s m args meth c cX0_judge 6 yX0_judge.cls ad cy D (AW ad) s.heap) (hr : meth.sig.returnType = none) {Q : Mem → Prop} : ∀ (n : Nat) (l1 : Int32) (l3 : Int32) (l5 : Int32) (w : Mem), wp_0_judge_b40 Q n l1 l3 l5 w → V p l e (RM 4) s m args below meth c 6 ad cy D (AW ad) s.heap 0 0 (MQ below (va_Qv Q (BC ad cy D wm wl0) (AW ad)) args s 0 0 (AW ad)) w wm wl0 40 [(0, .ref (ad 87)), (1, .int l1), (3, .int l3), (4, .ref (ad 67)), (5, .int l5)] [] := by
  intro n
  induction n with
  | zero =>
    intro l1 l3 l5 w h
    exact h.elim
  | succ n ih =>
    intro l1 l3 l5 w h
    unfold wp_0_judge_b40 at h
    refine V_iload X (i := 5) 4 dX0_judge_40 rfl ?_
    refine V_aload_n X (i := 0) 0 dX0_judge_42 rfl rfl ?_
    refine G_0_15 X dX0_judge_43 ?_
    refine G_0_59 X (inst_Text_48).1 (inst_Text_48).2.1 (Text_r6 inst_Text_48) dX0_judge_46 ?_
    refine G_0_97 X (inst_People_80).1 (inst_People_80).2.1 (People_r7 inst_People_80) dX0_judge_49 ?_
    obtain ⟨ht, hf⟩ := h
    refine V_icmp_ge X (tgt := 140) dX0_judge_52 (by decide) (fun c => ?_) (fun c => ?_)
    · have h := ht c
      refine V_aload_n X (i := 0) 0 dX0_judge_140 rfl rfl ?_
      refine V_aload_n X (i := 0) 0 dX0_judge_141 rfl rfl ?_
      refine G_0_9 X dX0_judge_142 ?_
      refine V_iconst X (v := (0 : Int32)) dX0_judge_145 (by decide) ?_
      refine V_aload_n X (i := 0) 0 dX0_judge_146 rfl rfl ?_
      refine G_0_15 X dX0_judge_147 ?_
      refine G_0_59 X (inst_Text_48).1 (inst_Text_48).2.1 (Text_r6 inst_Text_48) dX0_judge_150 ?_
      refine G_0_97 X (inst_People_80).1 (inst_People_80).2.1 (People_r7 inst_People_80) dX0_judge_153 ?_
      refine V_iconst X (v := (-1 : Int32)) dX0_judge_156 (by decide) ?_
      refine K_11_styleOf X (Or.inr ⟨_, q_928⟩) (⟨rfl, rfl, by decide⟩ : isArr 88 14 7) h ⟨Nat.le_of_ble_eq_true rfl, Nat.le_of_ble_eq_true rfl⟩ ⟨Nat.zero_le _, Nat.zero_le _⟩ (st1 := [.ref (ad 87)]) (Nat.le_of_ble_eq_true rfl) dX0_judge_157 (fun r2 w1 h => ?_)
      obtain ⟨w3, ew3⟩ : ∃ y : Mem, y = st w1 87 6 r2 := ⟨_, rfl⟩
      have h := h w3 ew3
      refine U_0_113 X rfl rfl dX0_judge_160 ew3 ?_
      refine V_aload_n X (i := 0) 0 dX0_judge_163 rfl rfl ?_
      refine V_aload_n X (i := 0) 0 dX0_judge_164 rfl rfl ?_
      refine V_aload_n X (i := 0) 0 dX0_judge_165 rfl rfl ?_
      refine G_0_91 X dX0_judge_166 ?_
      refine V_aload_n X (i := 0) 0 dX0_judge_169 rfl rfl ?_
      refine G_0_113 X dX0_judge_170 ?_
      refine V_aload_n X (i := 0) 0 dX0_judge_173 rfl rfl ?_
      refine V_aload_n X (i := 0) 0 dX0_judge_174 rfl rfl ?_
      refine G_0_53 X dX0_judge_175 ?_
      refine K_0_givenFor X (Or.inl q_931) h ⟨Nat.le_of_ble_eq_true rfl, Nat.le_of_ble_eq_true rfl⟩ ⟨Nat.zero_le _, Nat.zero_le _⟩ (st1 := [.int (w3 87 6), .int (w3 87 5), .ref (ad 87), .ref (ad 87)]) (Nat.le_of_ble_eq_true rfl) dX0_judge_178 (fun r5 w4 h => ?_)
      refine V_iload_n X (i := 3) 2 dX0_judge_181 rfl rfl ?_
      refine K_0_pointsFor X (Or.inl q_935) h ⟨Nat.le_of_ble_eq_true rfl, Nat.le_of_ble_eq_true rfl⟩ ⟨Nat.zero_le _, Nat.zero_le _⟩ (st1 := [.ref (ad 87)]) (Nat.le_of_ble_eq_true rfl) dX0_judge_182 (fun r7 w6 h => ?_)
      obtain ⟨w8, ew8⟩ : ∃ y : Mem, y = st w6 87 7 r7 := ⟨_, rfl⟩
      have h := h w8 ew8
      refine U_0_124 X rfl rfl dX0_judge_185 ew8 ?_
      exact V_vret_c X hr dX0_judge_188 h
    · have h := hf c
      refine V_aload X (i := 4) 3 dX0_judge_55 rfl ?_
      refine V_bipush X (v := (9 : Int32)) dX0_judge_57 (by decide) ?_
      refine V_aload_n X (i := 0) 0 dX0_judge_59 rfl rfl ?_
      refine G_0_15 X dX0_judge_60 ?_
      refine G_0_59 X (inst_Text_48).1 (inst_Text_48).2.1 (Text_r6 inst_Text_48) dX0_judge_63 ?_
      refine G_0_100 X (inst_People_80).1 (inst_People_80).2.1 (People_r4 inst_People_80) dX0_judge_66 ?_
      refine V_iload X (i := 5) 4 dX0_judge_69 rfl ?_
      obtain ⟨g9, h⟩ := h
      refine V_iald_c X (rfl : SLq 85 = 7) (by decide) (rfl : SK 85 = 14) g9 dX0_judge_71 ?_
      refine K_2_set X (Or.inl q_791) inst_Law_67 h ⟨Nat.le_of_ble_eq_true rfl, Nat.le_of_ble_eq_true rfl⟩ ⟨Nat.zero_le _, Nat.zero_le _⟩ (st1 := []) (Nat.le_of_ble_eq_true rfl) dX0_judge_72 (fun w10 h => ?_)
      refine V_aload X (i := 4) 3 dX0_judge_75 rfl ?_
      refine V_bipush X (v := (10 : Int32)) dX0_judge_77 (by decide) ?_
      refine V_aload_n X (i := 0) 0 dX0_judge_79 rfl rfl ?_
      refine G_0_15 X dX0_judge_80 ?_
      refine G_0_59 X (inst_Text_48).1 (inst_Text_48).2.1 (Text_r6 inst_Text_48) dX0_judge_83 ?_
      refine G_0_103 X (inst_People_80).1 (inst_People_80).2.1 (People_r5 inst_People_80) dX0_judge_86 ?_
      refine V_iload X (i := 5) 4 dX0_judge_89 rfl ?_
      obtain ⟨g11, h⟩ := h
      refine V_iald_c X (rfl : SLq 86 = 7) (by decide) (rfl : SK 86 = 14) g11 dX0_judge_91 ?_
      refine V_aload_n X (i := 0) 0 dX0_judge_92 rfl rfl ?_
      refine G_0_15 X dX0_judge_93 ?_
      refine G_0_59 X (inst_Text_48).1 (inst_Text_48).2.1 (Text_r6 inst_Text_48) dX0_judge_96 ?_
      refine G_0_106 X (inst_People_80).1 (inst_People_80).2.1 (People_r3 inst_People_80) dX0_judge_99 ?_
      refine V_iload_n X (i := 1) 1 dX0_judge_102 rfl rfl ?_
      obtain ⟨g12, h⟩ := h
      refine V_iald_c X (rfl : SLq 84 = 8) (by decide) (rfl : SK 84 = 14) g12 dX0_judge_103 ?_
      obtain ⟨ht, hf⟩ := h
      refine V_icmp_ne X (tgt := 111) dX0_judge_104 (by decide) (fun c => ?_) (fun c => ?_)
      · have h := ht c
        refine V_iconst X (v := (0 : Int32)) dX0_judge_111 (by decide) ?_
        refine V_sub X (ls1 := [(0, .ref (ad 87)), (1, .int l1), (3, .int l3), (4, .ref (ad 67)), (5, .int l5)]) [0, 1, 2, 3, 4] rfl ?_
        exact v_0_judge_b112 X hr ih _ _ _ _ _ _ h
      · have h := hf c
        refine V_iconst X (v := (1 : Int32)) dX0_judge_107 (by decide) ?_
        refine V_goto X (tgt := 112) dX0_judge_108 (by decide) ?_
        refine V_sub X (ls1 := [(0, .ref (ad 87)), (1, .int l1), (3, .int l3), (4, .ref (ad 67)), (5, .int l5)]) [0, 1, 2, 3, 4] rfl ?_
        exact v_0_judge_b112 X hr ih _ _ _ _ _ _ h
set_option maxRecDepth 20000 in
theorem v_0_judge {a1 : Int32} {a2 : Int32} {a3 : Int32} (X : CXq p s m args meth c cX0_judge 6 yX0_judge.cls ad cy D (AW ad) s.heap) (hr : meth.sig.returnType = none) {w : Mem} {Q : Mem → Prop} (h : wp_0_judge a1 a2 a3 w Q) : V p l e (RM 4) s m args below meth c 6 ad cy D (AW ad) s.heap 0 0 (MQ below (va_Qv Q (BC ad cy D wm wl0) (AW ad)) args s 0 0 (AW ad)) w wm wl0 0 [(0, .ref (ad 87)), (1, .int a1), (2, .int a2), (3, .int a3)] [] := by
  unfold wp_0_judge at h
  refine V_aload_n X (i := 0) 0 dX0_judge_0 rfl rfl ?_
  refine G_0_15 X dX0_judge_1 ?_
  refine G_0_94 X (inst_Text_48).1 (inst_Text_48).2.1 (Text_r3 inst_Text_48) dX0_judge_4 ?_
  refine V_astore X dX0_judge_7 (by decide) rfl (ls1 := [(4, .ref (ad 67)), (0, .ref (ad 87)), (1, .int a1), (2, .int a2), (3, .int a3)]) rfl ?_
  refine V_aload X (i := 4) 0 dX0_judge_9 rfl ?_
  refine V_bipush X (v := (8 : Int32)) dX0_judge_11 (by decide) ?_
  refine V_aload_n X (i := 0) 1 dX0_judge_13 rfl rfl ?_
  refine G_0_91 X dX0_judge_14 ?_
  refine K_2_set X (Or.inl q_791) inst_Law_67 h ⟨Nat.le_of_ble_eq_true rfl, Nat.le_of_ble_eq_true rfl⟩ ⟨Nat.zero_le _, Nat.zero_le _⟩ (st1 := []) (Nat.le_of_ble_eq_true rfl) dX0_judge_17 (fun w1 h => ?_)
  refine V_aload X (i := 4) 0 dX0_judge_20 rfl ?_
  refine V_iconst X (v := (5 : Int32)) dX0_judge_22 (by decide) ?_
  refine V_iload_n X (i := 2) 3 dX0_judge_23 rfl rfl ?_
  refine K_2_set X (Or.inl q_791) inst_Law_67 h ⟨Nat.le_of_ble_eq_true rfl, Nat.le_of_ble_eq_true rfl⟩ ⟨Nat.zero_le _, Nat.zero_le _⟩ (st1 := []) (Nat.le_of_ble_eq_true rfl) dX0_judge_24 (fun w2 h => ?_)
  refine V_aload X (i := 4) 0 dX0_judge_27 rfl ?_
  refine V_iconst X (v := (2 : Int32)) dX0_judge_29 (by decide) ?_
  refine V_aload_n X (i := 0) 1 dX0_judge_30 rfl rfl ?_
  refine G_0_56 X dX0_judge_31 ?_
  refine K_2_set X (Or.inl q_791) inst_Law_67 h ⟨Nat.le_of_ble_eq_true rfl, Nat.le_of_ble_eq_true rfl⟩ ⟨Nat.zero_le _, Nat.zero_le _⟩ (st1 := []) (Nat.le_of_ble_eq_true rfl) dX0_judge_34 (fun w3 h => ?_)
  refine V_iconst X (v := (0 : Int32)) dX0_judge_37 (by decide) ?_
  refine V_istore X dX0_judge_38 (by decide) rfl (ls1 := [(5, .int (0 : Int32)), (4, .ref (ad 67)), (0, .ref (ad 87)), (1, .int a1), (2, .int a2), (3, .int a3)]) rfl ?_
  refine V_sub X (ls1 := [(0, .ref (ad 87)), (1, .int a1), (3, .int a3), (4, .ref (ad 67)), (5, .int (0 : Int32))]) [2, 3, 5, 1, 0] rfl ?_
  obtain ⟨nn, h⟩ := h
  exact v_0_judge_b40 X hr nn _ _ _ _ h
theorem c_0_judge {a1 : Int32} {a2 : Int32} {a3 : Int32} (hinj : INJ ad) {w : Mem} {Q : Mem → Prop} (h : wp_0_judge a1 a2 a3 w Q) : Met l yX0_judge (TBq yX0_judge cX0_judge 6 none) (RM 4) (va_Pc [.ref (ad 87), .int a1, .int a2, .int a3] (PB ad cy D (cmb w wm) wl0)) (va_Qv Q (BC ad cy D wm wl0) (AW ad)) 0 0 (AW ad) := M_enter (by decide) (Nat.le_of_ble_eq_true rfl) hinj (fun p e s m args below meth c X hr => v_0_judge X hr h)
theorem mf_0_judge : MFV yX0_judge cX0_judge 6 none yX0_judge.cls 3 := ⟨q_927, q_925, q_926, q_8, by decide⟩
theorem K_0_judge {own : String} {idx : Nat} {a1 : Int32} {a2 : Int32} {a3 : Int32} (X : CXq p s m args meth c cc nL own ad cy D A H0) (hL : LK own idx yX0_judge) {w : Mem} {Q : Mem → Prop} (h : wp_0_judge a1 a2 a3 w Q) (hR : (RM 4).frames + 1 ≤ R.frames ∧ 8 + (6 + 11) + (RM 4).locals ≤ R.locals) (hce : ce ≤ R.cells ∧ sl ≤ R.slots) (hcat : (st1.map fun v => v.category).sum ≤ 8) (hd : decode cc pc = .ok (.invokevirtual idx, 3)) (kk : ∀ (u : Mem), Q u → V p l e R s m args below meth c nL ad cy D A H0 ce sl Qs u wm wl0 (pc + 3) ls st1) : V p l e R s m args below meth c nL ad cy D A H0 ce sl Qs w wm wl0 pc ls (.int a3 :: .int a2 :: .int a1 :: .ref (ad 87) :: st1) := V_callVV_c X mf_0_judge hL (rfl : vwCl[0]? = some (RX0, TX0, 8)) (by decide) (rfl : SK 87 = 0) (Nat.lt_of_lt_of_le (by decide : 87 < 150) (CX_nn X)) (c_0_judge X.2.2.2.2.2.2.2.1 h) (As := [.int a1, .int a2, .int a3]) rfl ⟨rfl, rfl⟩ hR hce st1 rfl hcat hd kk
set_option maxRecDepth 20000 in
theorem v_J7_fill_53178_b5 (X : CXq p s m args meth c cJ7_fill_53178 4 yJ7_fill_53178.cls ad cy D (AW ad) s.heap) (hr : meth.sig.returnType = none) {b1 nb1 : Nat} (hb1 : isArr b1 14 nb1) {Q : Mem → Prop} : ∀ (n : Nat) (l1 : Int32) (l2 : Int32) (l3 : Int32) (w : Mem), wp_J7_fill_53178_b5 b1 nb1 Q n l1 l2 l3 w → V p l e (RM 0) s m args below meth c 4 ad cy D (AW ad) s.heap 0 0 (MQ below (va_Qv Q (BC ad cy D wm wl0) (AW ad)) args s 0 0 (AW ad)) w wm wl0 5 [(0, .ref (ad b1)), (1, .int l1), (2, .int l2), (3, .int l3)] [] := by
  intro n
  induction n with
  | zero =>
    intro l1 l2 l3 w h
    exact h.elim
  | succ n ih =>
    intro l1 l2 l3 w h
    unfold wp_J7_fill_53178_b5 at h
    refine V_iload_n X (i := 2) 2 dJ7_fill_53178_5 rfl rfl ?_
    refine V_iload_n X (i := 3) 3 dJ7_fill_53178_6 rfl rfl ?_
    obtain ⟨ht, hf⟩ := h
    refine V_icmp_ge X (tgt := 20) dJ7_fill_53178_7 (by decide) (fun c => ?_) (fun c => ?_)
    · have h := ht c
      exact V_vret_c X hr dJ7_fill_53178_20 h
    · have h := hf c
      refine V_aload_n X (i := 0) 0 dJ7_fill_53178_10 rfl rfl ?_
      refine V_iload_n X (i := 2) 2 dJ7_fill_53178_11 rfl rfl ?_
      refine V_iload_n X (i := 1) 1 dJ7_fill_53178_12 rfl rfl ?_
      obtain ⟨g1, h⟩ := h
      obtain ⟨w2, ew2⟩ : ∃ y : Mem, y = st w b1 (ix l2) l1 := ⟨_, rfl⟩
      have h := h w2 ew2
      refine V_iast_c X (hb1).2.1 (hb1).2.2 (hb1).1 g1 dJ7_fill_53178_13 ew2 ?_
      obtain ⟨x3, ex3⟩ : ∃ y : Int32, y = l2 + (1 : Int32) := ⟨_, rfl⟩
      have h := h x3 ex3
      refine V_iinc X 2 dJ7_fill_53178_14 rfl (by decide) (by rw [ex3]; rfl) (ls1 := [(2, .int x3), (0, .ref (ad b1)), (1, .int l1), (3, .int l3)]) rfl ?_
      refine V_goto X (tgt := 5) dJ7_fill_53178_17 (by decide) ?_
      refine V_sub X (ls1 := [(0, .ref (ad b1)), (1, .int l1), (2, .int x3), (3, .int l3)]) [1, 2, 0, 3] rfl ?_
      exact ih _ _ _ _ h
set_option maxRecDepth 20000 in
theorem v_J7_fill_53178 {b1 nb1 : Nat} {a2 : Int32} (X : CXq p s m args meth c cJ7_fill_53178 4 yJ7_fill_53178.cls ad cy D (AW ad) s.heap) (hr : meth.sig.returnType = none) (hb1 : isArr b1 14 nb1) {w : Mem} {Q : Mem → Prop} (h : wp_J7_fill_53178 b1 nb1 a2 w Q) : V p l e (RM 0) s m args below meth c 4 ad cy D (AW ad) s.heap 0 0 (MQ below (va_Qv Q (BC ad cy D wm wl0) (AW ad)) args s 0 0 (AW ad)) w wm wl0 0 [(0, .ref (ad b1)), (1, .int a2)] [] := by
  unfold wp_J7_fill_53178 at h
  refine V_iconst X (v := (0 : Int32)) dJ7_fill_53178_0 (by decide) ?_
  refine V_istore_n X dJ7_fill_53178_1 rfl (by decide) rfl (ls1 := [(2, .int (0 : Int32)), (0, .ref (ad b1)), (1, .int a2)]) rfl ?_
  refine V_aload_n X (i := 0) 1 dJ7_fill_53178_2 rfl rfl ?_
  refine V_alen_c X (hb1).2.1 (hb1).2.2 (hb1).1 (by decide) dJ7_fill_53178_3 ?_
  obtain ⟨x1, ex1⟩ : ∃ y : Int32, y = (Int32.ofNat nb1) := ⟨_, rfl⟩
  have h := h x1 ex1
  refine V_istore_n X dJ7_fill_53178_4 rfl (by decide) ex1 (ls1 := [(3, .int x1), (2, .int (0 : Int32)), (0, .ref (ad b1)), (1, .int a2)]) rfl ?_
  refine V_sub X (ls1 := [(0, .ref (ad b1)), (1, .int a2), (2, .int (0 : Int32)), (3, .int x1)]) [2, 3, 1, 0] rfl ?_
  obtain ⟨nn, h⟩ := h
  exact v_J7_fill_53178_b5 X hr hb1 nn _ _ _ _ h
theorem c_J7_fill_53178 {b1 nb1 : Nat} {a2 : Int32} (hinj : INJ ad) (hb1 : isArr b1 14 nb1) {w : Mem} {Q : Mem → Prop} (h : wp_J7_fill_53178 b1 nb1 a2 w Q) : Met l yJ7_fill_53178 (TBq yJ7_fill_53178 cJ7_fill_53178 4 none) (RM 0) (va_Pc [.ref (ad b1), .int a2] (PB ad cy D (cmb w wm) wl0)) (va_Qv Q (BC ad cy D wm wl0) (AW ad)) 0 0 (AW ad) := M_enter (by decide) (Nat.le_of_ble_eq_true rfl) hinj (fun p e s m args below meth c X hr => v_J7_fill_53178 X hr hb1 h)
theorem mf_J7_fill_53178 : MFS yJ7_fill_53178 cJ7_fill_53178 4 none 2 := ⟨q_435, q_434, q_13, by decide⟩
theorem K_J7_fill_53178 {own : String} {idx : Nat} {b1 nb1 : Nat} {a2 : Int32} (X : CXq p s m args meth c cc nL own ad cy D A H0) (hL : LK own idx yJ7_fill_53178) (hb1 : isArr b1 14 nb1) {w : Mem} {Q : Mem → Prop} (h : wp_J7_fill_53178 b1 nb1 a2 w Q) (hR : (RM 0).frames + 1 ≤ R.frames ∧ 8 + (4 + 11) + (RM 0).locals ≤ R.locals) (hce : ce ≤ R.cells ∧ sl ≤ R.slots) (hcat : (st1.map fun v => v.category).sum ≤ 8) (hd : decode cc pc = .ok (.invokestatic idx, 3)) (kk : ∀ (u : Mem), Q u → V p l e R s m args below meth c nL ad cy D A H0 ce sl Qs u wm wl0 (pc + 3) ls st1) : V p l e R s m args below meth c nL ad cy D A H0 ce sl Qs w wm wl0 pc ls (.int a2 :: .ref (ad b1) :: st1) := V_callSV_c X mf_J7_fill_53178 hL (c_J7_fill_53178 X.2.2.2.2.2.2.2.1 hb1 h) (As := [.ref (ad b1), .int a2]) rfl ⟨rfl, rfl⟩ hR hce st1 rfl hcat hd kk
set_option maxRecDepth 20000 in
theorem v_0_mostStyle (X : CXq p s m args meth c cX0_mostStyle 1 yX0_mostStyle.cls ad cy D (AW ad) s.heap) (hr : meth.sig.returnType = (some .int)) {w : Mem} {Q : Int32 → Mem → Prop} (h : wp_0_mostStyle w Q) : V p l e (RM 3) s m args below meth c 1 ad cy D (AW ad) s.heap 0 0 (MQ below (va_Qi Q (BC ad cy D wm wl0) (AW ad)) args s 0 0 (AW ad)) w wm wl0 0 [(0, .ref (ad 87))] [] := by
  unfold wp_0_mostStyle at h
  refine V_aload_n X (i := 0) 0 dX0_mostStyle_0 rfl rfl ?_
  refine G_0_9 X dX0_mostStyle_1 ?_
  refine V_sipush X (v := (200 : Int32)) dX0_mostStyle_4 (by decide) ?_
  refine K_J7_fill_53178 X (Or.inl q_1070) (⟨rfl, rfl, by decide⟩ : isArr 88 14 7) h ⟨Nat.le_of_ble_eq_true rfl, Nat.le_of_ble_eq_true rfl⟩ ⟨Nat.zero_le _, Nat.zero_le _⟩ (st1 := []) (Nat.le_of_ble_eq_true rfl) dX0_mostStyle_7 (fun w1 h => ?_)
  refine V_aload_n X (i := 0) 0 dX0_mostStyle_10 rfl rfl ?_
  refine G_0_9 X dX0_mostStyle_11 ?_
  refine V_iconst X (v := (0 : Int32)) dX0_mostStyle_14 (by decide) ?_
  refine V_aload_n X (i := 0) 0 dX0_mostStyle_15 rfl rfl ?_
  refine G_0_15 X dX0_mostStyle_16 ?_
  refine G_0_59 X (inst_Text_48).1 (inst_Text_48).2.1 (Text_r6 inst_Text_48) dX0_mostStyle_19 ?_
  refine G_0_97 X (inst_People_80).1 (inst_People_80).2.1 (People_r7 inst_People_80) dX0_mostStyle_22 ?_
  refine V_iconst X (v := (-1 : Int32)) dX0_mostStyle_25 (by decide) ?_
  refine K_11_styleOf X (Or.inr ⟨_, q_928⟩) (⟨rfl, rfl, by decide⟩ : isArr 88 14 7) h ⟨Nat.le_of_ble_eq_true rfl, Nat.le_of_ble_eq_true rfl⟩ ⟨Nat.zero_le _, Nat.zero_le _⟩ (st1 := []) (Nat.le_of_ble_eq_true rfl) dX0_mostStyle_26 (fun r3 w2 h => ?_)
  exact V_iret_c X hr dX0_mostStyle_29 h
theorem c_0_mostStyle (hinj : INJ ad) {w : Mem} {Q : Int32 → Mem → Prop} (h : wp_0_mostStyle w Q) : Met l yX0_mostStyle (TBq yX0_mostStyle cX0_mostStyle 1 (some .int)) (RM 3) (va_Pc [.ref (ad 87)] (PB ad cy D (cmb w wm) wl0)) (va_Qi Q (BC ad cy D wm wl0) (AW ad)) 0 0 (AW ad) := M_enter (by decide) (Nat.le_of_ble_eq_true rfl) hinj (fun p e s m args below meth c X hr => v_0_mostStyle X hr h)
theorem mf_0_mostStyle : MFV yX0_mostStyle cX0_mostStyle 1 (some .int) yX0_mostStyle.cls 0 := ⟨q_1069, q_1067, q_1068, q_8, by decide⟩
theorem K_0_mostStyle {own : String} {idx : Nat} (X : CXq p s m args meth c cc nL own ad cy D A H0) (hL : LK own idx yX0_mostStyle) {w : Mem} {Q : Int32 → Mem → Prop} (h : wp_0_mostStyle w Q) (hR : (RM 3).frames + 1 ≤ R.frames ∧ 8 + (1 + 11) + (RM 3).locals ≤ R.locals) (hce : ce ≤ R.cells ∧ sl ≤ R.slots) (hcat : (st1.map fun v => v.category).sum ≤ 8) (hd : decode cc pc = .ok (.invokevirtual idx, 3)) (kk : ∀ (r : Int32) (u : Mem), Q r u → V p l e R s m args below meth c nL ad cy D A H0 ce sl Qs u wm wl0 (pc + 3) ls (.int r :: st1)) : V p l e R s m args below meth c nL ad cy D A H0 ce sl Qs w wm wl0 pc ls (.ref (ad 87) :: st1) := V_callVI_c X mf_0_mostStyle hL (rfl : vwCl[0]? = some (RX0, TX0, 8)) (by decide) (rfl : SK 87 = 0) (Nat.lt_of_lt_of_le (by decide : 87 < 150) (CX_nn X)) (c_0_mostStyle X.2.2.2.2.2.2.2.1 h) (As := []) rfl ⟨rfl, rfl⟩ hR hce st1 rfl hcat hd kk
set_option maxRecDepth 20000 in
theorem v_1_clear (X : CXq p s m args meth c cX1_clear 1 yX1_clear.cls ad cy D (AW ad) s.heap) (hr : meth.sig.returnType = none) {w : Mem} {Q : Mem → Prop} (h : wp_1_clear w Q) : V p l e (RM 0) s m args below meth c 1 ad cy D (AW ad) s.heap 0 0 (MQ below (va_Qv Q (BC ad cy D wm wl0) (AW ad)) args s 0 0 (AW ad)) w wm wl0 0 [(0, .ref (ad 97))] [] := by
  unfold wp_1_clear at h
  refine V_aload_n X (i := 0) 0 dX1_clear_0 rfl rfl ?_
  refine V_iconst X (v := (0 : Int32)) dX1_clear_1 (by decide) ?_
  obtain ⟨w1, ew1⟩ : ∃ y : Mem, y = st w 97 1 (0 : Int32) := ⟨_, rfl⟩
  have h := h w1 ew1
  refine U_1_16 X rfl rfl dX1_clear_2 ew1 ?_
  refine V_aload_n X (i := 0) 0 dX1_clear_5 rfl rfl ?_
  refine V_iconst X (v := (0 : Int32)) dX1_clear_6 (by decide) ?_
  obtain ⟨w2, ew2⟩ : ∃ y : Mem, y = st w1 97 2 (0 : Int32) := ⟨_, rfl⟩
  have h := h w2 ew2
  refine U_1_20 X rfl rfl dX1_clear_7 ew2 ?_
  exact V_vret_c X hr dX1_clear_10 h
theorem c_1_clear (hinj : INJ ad) {w : Mem} {Q : Mem → Prop} (h : wp_1_clear w Q) : Met l yX1_clear (TBq yX1_clear cX1_clear 1 none) (RM 0) (va_Pc [.ref (ad 97)] (PB ad cy D (cmb w wm) wl0)) (va_Qv Q (BC ad cy D wm wl0) (AW ad)) 0 0 (AW ad) := M_enter (by decide) (Nat.le_of_ble_eq_true rfl) hinj (fun p e s m args below meth c X hr => v_1_clear X hr h)
theorem mf_1_clear : MFV yX1_clear cX1_clear 1 none yX1_clear.cls 0 := ⟨q_470, q_468, q_469, q_10, by decide⟩
theorem K_1_clear {own : String} {idx : Nat} (X : CXq p s m args meth c cc nL own ad cy D A H0) (hL : LK own idx yX1_clear) {w : Mem} {Q : Mem → Prop} (h : wp_1_clear w Q) (hR : (RM 0).frames + 1 ≤ R.frames ∧ 8 + (1 + 11) + (RM 0).locals ≤ R.locals) (hce : ce ≤ R.cells ∧ sl ≤ R.slots) (hcat : (st1.map fun v => v.category).sum ≤ 8) (hd : decode cc pc = .ok (.invokevirtual idx, 3)) (kk : ∀ (u : Mem), Q u → V p l e R s m args below meth c nL ad cy D A H0 ce sl Qs u wm wl0 (pc + 3) ls st1) : V p l e R s m args below meth c nL ad cy D A H0 ce sl Qs w wm wl0 pc ls (.ref (ad 97) :: st1) := V_callVV_c X mf_1_clear hL (rfl : vwCl[1]? = some (RX1, TX1, 3)) (by decide) (rfl : SK 97 = 1) (Nat.lt_of_lt_of_le (by decide : 97 < 150) (CX_nn X)) (c_1_clear X.2.2.2.2.2.2.2.1 h) (As := []) rfl ⟨rfl, rfl⟩ hR hce st1 rfl hcat hd kk
set_option maxRecDepth 20000 in
theorem v_5_save {k : Nat} {b1 nb1 : Nat} (X : CXq p s m args meth c cX5_save 2 yX5_save.cls ad cy D (AW ad) s.heap) (hr : meth.sig.returnType = none) (hk : isPlay k) (hb1 : isArr b1 14 nb1) {w : Mem} {Q : Mem → Prop} (h : wp_5_save k b1 nb1 w Q) : V p l e (RM 2) s m args below meth c 2 ad cy D (AW ad) s.heap 0 0 (MQ below (va_Qv Q (BC ad cy D wm wl0) (AW ad)) args s 0 0 (AW ad)) w wm wl0 0 [(0, .ref (ad k)), (1, .ref (ad b1))] [] := by
  unfold wp_5_save at h
  refine V_aload_n X (i := 1) 1 dX5_save_0 rfl rfl ?_
  refine V_iconst X (v := (0 : Int32)) dX5_save_1 (by decide) ?_
  refine V_aload_n X (i := 0) 0 dX5_save_2 rfl rfl ?_
  refine G_5_25 X (hk).1 (hk).2.1 (Play_r4 hk) dX5_save_3 ?_
  obtain ⟨g1, h⟩ := h
  obtain ⟨w2, ew2⟩ : ∃ y : Mem, y = st w b1 (ix (0 : Int32)) (w k 4) := ⟨_, rfl⟩
  have h := h w2 ew2
  refine V_iast_c X (hb1).2.1 (hb1).2.2 (hb1).1 g1 dX5_save_6 ew2 ?_
  refine V_aload_n X (i := 1) 1 dX5_save_7 rfl rfl ?_
  refine V_iconst X (v := (1 : Int32)) dX5_save_8 (by decide) ?_
  refine V_aload_n X (i := 0) 0 dX5_save_9 rfl rfl ?_
  refine G_5_29 X (hk).1 (hk).2.1 (Play_r5 hk) dX5_save_10 ?_
  obtain ⟨g3, h⟩ := h
  obtain ⟨w4, ew4⟩ : ∃ y : Mem, y = st w2 b1 (ix (1 : Int32)) (w2 k 5) := ⟨_, rfl⟩
  have h := h w4 ew4
  refine V_iast_c X (hb1).2.1 (hb1).2.2 (hb1).1 g3 dX5_save_13 ew4 ?_
  refine V_aload_n X (i := 1) 1 dX5_save_14 rfl rfl ?_
  refine V_iconst X (v := (2 : Int32)) dX5_save_15 (by decide) ?_
  refine V_aload_n X (i := 0) 0 dX5_save_16 rfl rfl ?_
  refine G_5_37 X (hk).1 (hk).2.1 (Play_r6 hk) dX5_save_17 ?_
  obtain ⟨g5, h⟩ := h
  obtain ⟨w6, ew6⟩ : ∃ y : Mem, y = st w4 b1 (ix (2 : Int32)) (w4 k 6) := ⟨_, rfl⟩
  have h := h w6 ew6
  refine V_iast_c X (hb1).2.1 (hb1).2.2 (hb1).1 g5 dX5_save_20 ew6 ?_
  refine V_aload_n X (i := 1) 1 dX5_save_21 rfl rfl ?_
  refine V_iconst X (v := (3 : Int32)) dX5_save_22 (by decide) ?_
  refine V_aload_n X (i := 0) 0 dX5_save_23 rfl rfl ?_
  refine G_5_40 X (hk).1 (hk).2.1 (Play_r7 hk) dX5_save_24 ?_
  obtain ⟨g7, h⟩ := h
  obtain ⟨w8, ew8⟩ : ∃ y : Mem, y = st w6 b1 (ix (3 : Int32)) (w6 k 7) := ⟨_, rfl⟩
  have h := h w8 ew8
  refine V_iast_c X (hb1).2.1 (hb1).2.2 (hb1).1 g7 dX5_save_27 ew8 ?_
  refine V_aload_n X (i := 1) 1 dX5_save_28 rfl rfl ?_
  refine V_iconst X (v := (4 : Int32)) dX5_save_29 (by decide) ?_
  refine V_aload_n X (i := 0) 0 dX5_save_30 rfl rfl ?_
  refine G_5_52 X (hk).1 (hk).2.1 (Play_r8 hk) dX5_save_31 ?_
  obtain ⟨g9, h⟩ := h
  obtain ⟨w10, ew10⟩ : ∃ y : Mem, y = st w8 b1 (ix (4 : Int32)) (w8 k 8) := ⟨_, rfl⟩
  have h := h w10 ew10
  refine V_iast_c X (hb1).2.1 (hb1).2.2 (hb1).1 g9 dX5_save_34 ew10 ?_
  refine V_aload_n X (i := 0) 0 dX5_save_35 rfl rfl ?_
  refine G_5_11 X (hk).1 (hk).2.1 (Play_r1 hk) dX5_save_36 ?_
  refine V_iconst X (v := (0 : Int32)) dX5_save_39 (by decide) ?_
  refine V_aload_n X (i := 1) 1 dX5_save_40 rfl rfl ?_
  refine V_iconst X (v := (5 : Int32)) dX5_save_41 (by decide) ?_
  refine V_bipush X (v := (8 : Int32)) dX5_save_42 (by decide) ?_
  obtain ⟨g11, h⟩ := h
  obtain ⟨w12, ew12⟩ : ∃ y : Mem, y = cpy w10 (k + 1) (ix (0 : Int32)) b1 (ix (5 : Int32)) (ix (8 : Int32)) := ⟨_, rfl⟩
  have h := h w12 ew12
  refine V_copy X ((Play_s1 hk)).1 (hb1).1 ((Play_s1 hk)).2.1 (hb1).2.1 ((Play_s1 hk)).2.2 (hb1).2.2 dX5_save_44 q_891 q_893 q_892 q_21 (by decide) (by decide) (by decide) (by decide) g11 (Nat.le_of_ble_eq_true rfl) (by decide) ew12 ?_
  refine V_aload_n X (i := 0) 0 dX5_save_47 rfl rfl ?_
  refine G_5_15 X (hk).1 (hk).2.1 (Play_r2 hk) dX5_save_48 ?_
  refine V_iconst X (v := (0 : Int32)) dX5_save_51 (by decide) ?_
  refine V_aload_n X (i := 1) 1 dX5_save_52 rfl rfl ?_
  refine V_bipush X (v := (13 : Int32)) dX5_save_53 (by decide) ?_
  refine V_bipush X (v := (8 : Int32)) dX5_save_55 (by decide) ?_
  obtain ⟨g13, h⟩ := h
  obtain ⟨w14, ew14⟩ : ∃ y : Mem, y = cpy w12 (k + 2) (ix (0 : Int32)) b1 (ix (13 : Int32)) (ix (8 : Int32)) := ⟨_, rfl⟩
  have h := h w14 ew14
  refine V_copy X ((Play_s2 hk)).1 (hb1).1 ((Play_s2 hk)).2.1 (hb1).2.1 ((Play_s2 hk)).2.2 (hb1).2.2 dX5_save_57 q_891 q_893 q_892 q_21 (by decide) (by decide) (by decide) (by decide) g13 (Nat.le_of_ble_eq_true rfl) (by decide) ew14 ?_
  refine V_aload_n X (i := 0) 0 dX5_save_60 rfl rfl ?_
  refine G_5_18 X (hk).1 (hk).2.1 (Play_r3 hk) dX5_save_61 ?_
  refine V_iconst X (v := (0 : Int32)) dX5_save_64 (by decide) ?_
  refine V_aload_n X (i := 1) 1 dX5_save_65 rfl rfl ?_
  refine V_bipush X (v := (21 : Int32)) dX5_save_66 (by decide) ?_
  refine V_sipush X (v := (256 : Int32)) dX5_save_68 (by decide) ?_
  obtain ⟨g15, h⟩ := h
  obtain ⟨w16, ew16⟩ : ∃ y : Mem, y = cpy w14 (k + 3) (ix (0 : Int32)) b1 (ix (21 : Int32)) (ix (256 : Int32)) := ⟨_, rfl⟩
  have h := h w16 ew16
  refine V_copy X ((Play_s3 hk)).1 (hb1).1 ((Play_s3 hk)).2.1 (hb1).2.1 ((Play_s3 hk)).2.2 (hb1).2.2 dX5_save_71 q_891 q_893 q_892 q_21 (by decide) (by decide) (by decide) (by decide) g15 (Nat.le_of_ble_eq_true rfl) (by decide) ew16 ?_
  exact V_vret_c X hr dX5_save_74 h
theorem c_5_save {k : Nat} {b1 nb1 : Nat} (hinj : INJ ad) (hk : isPlay k) (hb1 : isArr b1 14 nb1) {w : Mem} {Q : Mem → Prop} (h : wp_5_save k b1 nb1 w Q) : Met l yX5_save (TBq yX5_save cX5_save 2 none) (RM 2) (va_Pc [.ref (ad k), .ref (ad b1)] (PB ad cy D (cmb w wm) wl0)) (va_Qv Q (BC ad cy D wm wl0) (AW ad)) 0 0 (AW ad) := M_enter (by decide) (Nat.le_of_ble_eq_true rfl) hinj (fun p e s m args below meth c X hr => v_5_save X hr hk hb1 h)
theorem mf_5_save : MFV yX5_save cX5_save 2 none yX5_save.cls 1 := ⟨q_890, q_888, q_889, q_9, by decide⟩
theorem K_5_save {own : String} {idx : Nat} {k : Nat} {b1 nb1 : Nat} (X : CXq p s m args meth c cc nL own ad cy D A H0) (hL : LK own idx yX5_save) (hk : isPlay k) (hb1 : isArr b1 14 nb1) {w : Mem} {Q : Mem → Prop} (h : wp_5_save k b1 nb1 w Q) (hR : (RM 2).frames + 1 ≤ R.frames ∧ 8 + (2 + 11) + (RM 2).locals ≤ R.locals) (hce : ce ≤ R.cells ∧ sl ≤ R.slots) (hcat : (st1.map fun v => v.category).sum ≤ 8) (hd : decode cc pc = .ok (.invokevirtual idx, 3)) (kk : ∀ (u : Mem), Q u → V p l e R s m args below meth c nL ad cy D A H0 ce sl Qs u wm wl0 (pc + 3) ls st1) : V p l e R s m args below meth c nL ad cy D A H0 ce sl Qs w wm wl0 pc ls (.ref (ad b1) :: .ref (ad k) :: st1) := V_callVV_c X mf_5_save hL (rfl : vwCl[5]? = some (RX5, TX5, 9)) (by decide) (hk).1 (Nat.lt_of_lt_of_le (hk).2.1 (CX_nn X)) (c_5_save X.2.2.2.2.2.2.2.1 hk hb1 h) (As := [.ref (ad b1)]) rfl ⟨rfl, rfl⟩ hR hce st1 rfl hcat hd kk
set_option maxRecDepth 20000 in
theorem v_1_keep {k1 : Nat} (X : CXq p s m args meth c cX1_keep 2 yX1_keep.cls ad cy D (AW ad) s.heap) (hr : meth.sig.returnType = none) (hk1 : isPlay k1) {w : Mem} {Q : Mem → Prop} (h : wp_1_keep k1 w Q) : V p l e (RM 3) s m args below meth c 2 ad cy D (AW ad) s.heap 0 0 (MQ below (va_Qv Q (BC ad cy D wm wl0) (AW ad)) args s 0 0 (AW ad)) w wm wl0 0 [(0, .ref (ad 97)), (1, .ref (ad k1))] [] := by
  unfold wp_1_keep at h
  refine V_aload_n X (i := 1) 1 dX1_keep_0 rfl rfl ?_
  refine V_aload_n X (i := 0) 0 dX1_keep_1 rfl rfl ?_
  refine G_1_13 X dX1_keep_2 ?_
  refine V_aload_n X (i := 0) 0 dX1_keep_5 rfl rfl ?_
  refine G_1_20 X dX1_keep_6 ?_
  obtain ⟨g1, h⟩ := h
  refine V_aald X (rfl : SLq 98 = 40) (by decide) (rfl : SK 98 = 17) g1 (grid_98 _ (vin_lt g1)) dX1_keep_9 ?_
  refine K_5_save X (Or.inl q_887) hk1 (gridr_98 _ (vin_lt g1)) h ⟨Nat.le_of_ble_eq_true rfl, Nat.le_of_ble_eq_true rfl⟩ ⟨Nat.zero_le _, Nat.zero_le _⟩ (st1 := []) (Nat.le_of_ble_eq_true rfl) dX1_keep_10 (fun w2 h => ?_)
  refine V_aload_n X (i := 0) 0 dX1_keep_13 rfl rfl ?_
  refine V_aload_n X (i := 0) 0 dX1_keep_14 rfl rfl ?_
  refine G_1_20 X dX1_keep_15 ?_
  refine V_iconst X (v := (1 : Int32)) dX1_keep_18 (by decide) ?_
  refine V_iadd X dX1_keep_19 ?_
  refine V_bipush X (v := (40 : Int32)) dX1_keep_20 (by decide) ?_
  refine V_irem X dX1_keep_22 (by decide) ?_
  obtain ⟨w3, ew3⟩ : ∃ y : Mem, y = st w2 97 2 (irm ((w2 97 2) + (1 : Int32)) (40 : Int32)) := ⟨_, rfl⟩
  have h := h w3 ew3
  refine U_1_20 X rfl rfl dX1_keep_23 ew3 ?_
  refine V_aload_n X (i := 0) 0 dX1_keep_26 rfl rfl ?_
  refine V_aload_n X (i := 0) 0 dX1_keep_27 rfl rfl ?_
  refine G_1_16 X dX1_keep_28 ?_
  refine V_iconst X (v := (1 : Int32)) dX1_keep_31 (by decide) ?_
  refine V_iadd X dX1_keep_32 ?_
  refine V_bipush X (v := (40 : Int32)) dX1_keep_33 (by decide) ?_
  refine V_mmin X dX1_keep_35 q_894 q_645 q_19 q_646 (Nat.le_of_ble_eq_true rfl) (Nat.le_of_ble_eq_true rfl) (Nat.zero_le _) (Nat.zero_le _) ?_
  obtain ⟨w4, ew4⟩ : ∃ y : Mem, y = st w3 97 1 (mn ((w3 97 1) + (1 : Int32)) (40 : Int32)) := ⟨_, rfl⟩
  have h := h w4 ew4
  refine U_1_16 X rfl rfl dX1_keep_38 ew4 ?_
  exact V_vret_c X hr dX1_keep_41 h
theorem c_1_keep {k1 : Nat} (hinj : INJ ad) (hk1 : isPlay k1) {w : Mem} {Q : Mem → Prop} (h : wp_1_keep k1 w Q) : Met l yX1_keep (TBq yX1_keep cX1_keep 2 none) (RM 3) (va_Pc [.ref (ad 97), .ref (ad k1)] (PB ad cy D (cmb w wm) wl0)) (va_Qv Q (BC ad cy D wm wl0) (AW ad)) 0 0 (AW ad) := M_enter (by decide) (Nat.le_of_ble_eq_true rfl) hinj (fun p e s m args below meth c X hr => v_1_keep X hr hk1 h)
theorem mf_1_keep : MFV yX1_keep cX1_keep 2 none yX1_keep.cls 1 := ⟨q_886, q_884, q_885, q_10, by decide⟩
theorem K_1_keep {own : String} {idx : Nat} {k1 : Nat} (X : CXq p s m args meth c cc nL own ad cy D A H0) (hL : LK own idx yX1_keep) (hk1 : isPlay k1) {w : Mem} {Q : Mem → Prop} (h : wp_1_keep k1 w Q) (hR : (RM 3).frames + 1 ≤ R.frames ∧ 8 + (2 + 11) + (RM 3).locals ≤ R.locals) (hce : ce ≤ R.cells ∧ sl ≤ R.slots) (hcat : (st1.map fun v => v.category).sum ≤ 8) (hd : decode cc pc = .ok (.invokevirtual idx, 3)) (kk : ∀ (u : Mem), Q u → V p l e R s m args below meth c nL ad cy D A H0 ce sl Qs u wm wl0 (pc + 3) ls st1) : V p l e R s m args below meth c nL ad cy D A H0 ce sl Qs w wm wl0 pc ls (.ref (ad k1) :: .ref (ad 97) :: st1) := V_callVV_c X mf_1_keep hL (rfl : vwCl[1]? = some (RX1, TX1, 3)) (by decide) (rfl : SK 97 = 1) (Nat.lt_of_lt_of_le (by decide : 97 < 150) (CX_nn X)) (c_1_keep X.2.2.2.2.2.2.2.1 hk1 h) (As := [.ref (ad k1)]) rfl ⟨rfl, rfl⟩ hR hce st1 rfl hcat hd kk
set_option maxRecDepth 20000 in
theorem v_5_load {k : Nat} {b1 nb1 : Nat} (X : CXq p s m args meth c cX5_load 2 yX5_load.cls ad cy D (AW ad) s.heap) (hr : meth.sig.returnType = none) (hk : isPlay k) (hb1 : isArr b1 14 nb1) {w : Mem} {Q : Mem → Prop} (h : wp_5_load k b1 nb1 w Q) : V p l e (RM 2) s m args below meth c 2 ad cy D (AW ad) s.heap 0 0 (MQ below (va_Qv Q (BC ad cy D wm wl0) (AW ad)) args s 0 0 (AW ad)) w wm wl0 0 [(0, .ref (ad k)), (1, .ref (ad b1))] [] := by
  unfold wp_5_load at h
  refine V_aload_n X (i := 0) 0 dX5_load_0 rfl rfl ?_
  refine V_aload_n X (i := 1) 1 dX5_load_1 rfl rfl ?_
  refine V_iconst X (v := (0 : Int32)) dX5_load_2 (by decide) ?_
  obtain ⟨g1, h⟩ := h
  refine V_iald_c X (hb1).2.1 (hb1).2.2 (hb1).1 g1 dX5_load_3 ?_
  obtain ⟨w2, ew2⟩ : ∃ y : Mem, y = st w k 4 (w b1 (ix (0 : Int32))) := ⟨_, rfl⟩
  have h := h w2 ew2
  refine U_5_25 X (hk).1 (hk).2.1 (Play_r4 hk) rfl rfl dX5_load_4 ew2 ?_
  refine V_aload_n X (i := 0) 0 dX5_load_7 rfl rfl ?_
  refine V_aload_n X (i := 1) 1 dX5_load_8 rfl rfl ?_
  refine V_iconst X (v := (1 : Int32)) dX5_load_9 (by decide) ?_
  obtain ⟨g3, h⟩ := h
  refine V_iald_c X (hb1).2.1 (hb1).2.2 (hb1).1 g3 dX5_load_10 ?_
  obtain ⟨w4, ew4⟩ : ∃ y : Mem, y = st w2 k 5 (w2 b1 (ix (1 : Int32))) := ⟨_, rfl⟩
  have h := h w4 ew4
  refine U_5_29 X (hk).1 (hk).2.1 (Play_r5 hk) rfl rfl dX5_load_11 ew4 ?_
  refine V_aload_n X (i := 0) 0 dX5_load_14 rfl rfl ?_
  refine V_aload_n X (i := 1) 1 dX5_load_15 rfl rfl ?_
  refine V_iconst X (v := (2 : Int32)) dX5_load_16 (by decide) ?_
  obtain ⟨g5, h⟩ := h
  refine V_iald_c X (hb1).2.1 (hb1).2.2 (hb1).1 g5 dX5_load_17 ?_
  obtain ⟨w6, ew6⟩ : ∃ y : Mem, y = st w4 k 6 (w4 b1 (ix (2 : Int32))) := ⟨_, rfl⟩
  have h := h w6 ew6
  refine U_5_37 X (hk).1 (hk).2.1 (Play_r6 hk) rfl rfl dX5_load_18 ew6 ?_
  refine V_aload_n X (i := 0) 0 dX5_load_21 rfl rfl ?_
  refine V_aload_n X (i := 1) 1 dX5_load_22 rfl rfl ?_
  refine V_iconst X (v := (3 : Int32)) dX5_load_23 (by decide) ?_
  obtain ⟨g7, h⟩ := h
  refine V_iald_c X (hb1).2.1 (hb1).2.2 (hb1).1 g7 dX5_load_24 ?_
  obtain ⟨w8, ew8⟩ : ∃ y : Mem, y = st w6 k 7 (w6 b1 (ix (3 : Int32))) := ⟨_, rfl⟩
  have h := h w8 ew8
  refine U_5_40 X (hk).1 (hk).2.1 (Play_r7 hk) rfl rfl dX5_load_25 ew8 ?_
  refine V_aload_n X (i := 0) 0 dX5_load_28 rfl rfl ?_
  refine V_aload_n X (i := 1) 1 dX5_load_29 rfl rfl ?_
  refine V_iconst X (v := (4 : Int32)) dX5_load_30 (by decide) ?_
  obtain ⟨g9, h⟩ := h
  refine V_iald_c X (hb1).2.1 (hb1).2.2 (hb1).1 g9 dX5_load_31 ?_
  obtain ⟨w10, ew10⟩ : ∃ y : Mem, y = st w8 k 8 (w8 b1 (ix (4 : Int32))) := ⟨_, rfl⟩
  have h := h w10 ew10
  refine U_5_52 X (hk).1 (hk).2.1 (Play_r8 hk) rfl rfl dX5_load_32 ew10 ?_
  refine V_aload_n X (i := 1) 1 dX5_load_35 rfl rfl ?_
  refine V_iconst X (v := (5 : Int32)) dX5_load_36 (by decide) ?_
  refine V_aload_n X (i := 0) 0 dX5_load_37 rfl rfl ?_
  refine G_5_11 X (hk).1 (hk).2.1 (Play_r1 hk) dX5_load_38 ?_
  refine V_iconst X (v := (0 : Int32)) dX5_load_41 (by decide) ?_
  refine V_bipush X (v := (8 : Int32)) dX5_load_42 (by decide) ?_
  obtain ⟨g11, h⟩ := h
  obtain ⟨w12, ew12⟩ : ∃ y : Mem, y = cpy w10 b1 (ix (5 : Int32)) (k + 1) (ix (0 : Int32)) (ix (8 : Int32)) := ⟨_, rfl⟩
  have h := h w12 ew12
  refine V_copy X (hb1).1 ((Play_s1 hk)).1 (hb1).2.1 ((Play_s1 hk)).2.1 (hb1).2.2 ((Play_s1 hk)).2.2 dX5_load_44 q_891 q_893 q_892 q_21 (by decide) (by decide) (by decide) g11 (by decide) (Nat.le_of_ble_eq_true rfl) (by decide) ew12 ?_
  refine V_aload_n X (i := 1) 1 dX5_load_47 rfl rfl ?_
  refine V_bipush X (v := (13 : Int32)) dX5_load_48 (by decide) ?_
  refine V_aload_n X (i := 0) 0 dX5_load_50 rfl rfl ?_
  refine G_5_15 X (hk).1 (hk).2.1 (Play_r2 hk) dX5_load_51 ?_
  refine V_iconst X (v := (0 : Int32)) dX5_load_54 (by decide) ?_
  refine V_bipush X (v := (8 : Int32)) dX5_load_55 (by decide) ?_
  obtain ⟨g13, h⟩ := h
  obtain ⟨w14, ew14⟩ : ∃ y : Mem, y = cpy w12 b1 (ix (13 : Int32)) (k + 2) (ix (0 : Int32)) (ix (8 : Int32)) := ⟨_, rfl⟩
  have h := h w14 ew14
  refine V_copy X (hb1).1 ((Play_s2 hk)).1 (hb1).2.1 ((Play_s2 hk)).2.1 (hb1).2.2 ((Play_s2 hk)).2.2 dX5_load_57 q_891 q_893 q_892 q_21 (by decide) (by decide) (by decide) g13 (by decide) (Nat.le_of_ble_eq_true rfl) (by decide) ew14 ?_
  refine V_aload_n X (i := 1) 1 dX5_load_60 rfl rfl ?_
  refine V_bipush X (v := (21 : Int32)) dX5_load_61 (by decide) ?_
  refine V_aload_n X (i := 0) 0 dX5_load_63 rfl rfl ?_
  refine G_5_18 X (hk).1 (hk).2.1 (Play_r3 hk) dX5_load_64 ?_
  refine V_iconst X (v := (0 : Int32)) dX5_load_67 (by decide) ?_
  refine V_sipush X (v := (256 : Int32)) dX5_load_68 (by decide) ?_
  obtain ⟨g15, h⟩ := h
  obtain ⟨w16, ew16⟩ : ∃ y : Mem, y = cpy w14 b1 (ix (21 : Int32)) (k + 3) (ix (0 : Int32)) (ix (256 : Int32)) := ⟨_, rfl⟩
  have h := h w16 ew16
  refine V_copy X (hb1).1 ((Play_s3 hk)).1 (hb1).2.1 ((Play_s3 hk)).2.1 (hb1).2.2 ((Play_s3 hk)).2.2 dX5_load_71 q_891 q_893 q_892 q_21 (by decide) (by decide) (by decide) g15 (by decide) (Nat.le_of_ble_eq_true rfl) (by decide) ew16 ?_
  exact V_vret_c X hr dX5_load_74 h
theorem c_5_load {k : Nat} {b1 nb1 : Nat} (hinj : INJ ad) (hk : isPlay k) (hb1 : isArr b1 14 nb1) {w : Mem} {Q : Mem → Prop} (h : wp_5_load k b1 nb1 w Q) : Met l yX5_load (TBq yX5_load cX5_load 2 none) (RM 2) (va_Pc [.ref (ad k), .ref (ad b1)] (PB ad cy D (cmb w wm) wl0)) (va_Qv Q (BC ad cy D wm wl0) (AW ad)) 0 0 (AW ad) := M_enter (by decide) (Nat.le_of_ble_eq_true rfl) hinj (fun p e s m args below meth c X hr => v_5_load X hr hk hb1 h)
theorem mf_5_load : MFV yX5_load cX5_load 2 none yX5_load.cls 1 := ⟨q_976, q_974, q_975, q_9, by decide⟩
theorem K_5_load {own : String} {idx : Nat} {k : Nat} {b1 nb1 : Nat} (X : CXq p s m args meth c cc nL own ad cy D A H0) (hL : LK own idx yX5_load) (hk : isPlay k) (hb1 : isArr b1 14 nb1) {w : Mem} {Q : Mem → Prop} (h : wp_5_load k b1 nb1 w Q) (hR : (RM 2).frames + 1 ≤ R.frames ∧ 8 + (2 + 11) + (RM 2).locals ≤ R.locals) (hce : ce ≤ R.cells ∧ sl ≤ R.slots) (hcat : (st1.map fun v => v.category).sum ≤ 8) (hd : decode cc pc = .ok (.invokevirtual idx, 3)) (kk : ∀ (u : Mem), Q u → V p l e R s m args below meth c nL ad cy D A H0 ce sl Qs u wm wl0 (pc + 3) ls st1) : V p l e R s m args below meth c nL ad cy D A H0 ce sl Qs w wm wl0 pc ls (.ref (ad b1) :: .ref (ad k) :: st1) := V_callVV_c X mf_5_load hL (rfl : vwCl[5]? = some (RX5, TX5, 9)) (by decide) (hk).1 (Nat.lt_of_lt_of_le (hk).2.1 (CX_nn X)) (c_5_load X.2.2.2.2.2.2.2.1 hk hb1 h) (As := [.ref (ad b1)]) rfl ⟨rfl, rfl⟩ hR hce st1 rfl hcat hd kk
set_option maxRecDepth 20000 in
theorem v_1_takeBack {k1 : Nat} (X : CXq p s m args meth c cX1_takeBack 2 yX1_takeBack.cls ad cy D (AW ad) s.heap) (hr : meth.sig.returnType = (some .boolean)) (hk1 : isPlay k1) {w : Mem} {Q : Int32 → Mem → Prop} (h : wp_1_takeBack k1 w Q) : V p l e (RM 3) s m args below meth c 2 ad cy D (AW ad) s.heap 0 0 (MQ below (va_Qi Q (BC ad cy D wm wl0) (AW ad)) args s 0 0 (AW ad)) w wm wl0 0 [(0, .ref (ad 97)), (1, .ref (ad k1))] [] := by
  unfold wp_1_takeBack at h
  refine V_aload_n X (i := 0) 0 dX1_takeBack_0 rfl rfl ?_
  refine G_1_16 X dX1_takeBack_1 ?_
  obtain ⟨ht, hf⟩ := h
  refine V_if_ne X (tgt := 9) dX1_takeBack_4 (by decide) (fun c => ?_) (fun c => ?_)
  · have h := ht c
    refine V_aload_n X (i := 0) 0 dX1_takeBack_9 rfl rfl ?_
    refine V_aload_n X (i := 0) 0 dX1_takeBack_10 rfl rfl ?_
    refine G_1_20 X dX1_takeBack_11 ?_
    refine V_bipush X (v := (40 : Int32)) dX1_takeBack_14 (by decide) ?_
    refine V_iadd X dX1_takeBack_16 ?_
    refine V_iconst X (v := (1 : Int32)) dX1_takeBack_17 (by decide) ?_
    refine V_isub X dX1_takeBack_18 ?_
    refine V_bipush X (v := (40 : Int32)) dX1_takeBack_19 (by decide) ?_
    refine V_irem X dX1_takeBack_21 (by decide) ?_
    obtain ⟨w1, ew1⟩ : ∃ y : Mem, y = st w 97 2 (irm (((w 97 2) + (40 : Int32)) - (1 : Int32)) (40 : Int32)) := ⟨_, rfl⟩
    have h := h w1 ew1
    refine U_1_20 X rfl rfl dX1_takeBack_22 ew1 ?_
    refine V_aload_n X (i := 0) 0 dX1_takeBack_25 rfl rfl ?_
    refine V_dup X dX1_takeBack_26 rfl ?_
    refine G_1_16 X dX1_takeBack_27 ?_
    refine V_iconst X (v := (1 : Int32)) dX1_takeBack_30 (by decide) ?_
    refine V_isub X dX1_takeBack_31 ?_
    obtain ⟨w2, ew2⟩ : ∃ y : Mem, y = st w1 97 1 ((w1 97 1) - (1 : Int32)) := ⟨_, rfl⟩
    have h := h w2 ew2
    refine U_1_16 X rfl rfl dX1_takeBack_32 ew2 ?_
    refine V_aload_n X (i := 1) 1 dX1_takeBack_35 rfl rfl ?_
    refine V_aload_n X (i := 0) 0 dX1_takeBack_36 rfl rfl ?_
    refine G_1_13 X dX1_takeBack_37 ?_
    refine V_aload_n X (i := 0) 0 dX1_takeBack_40 rfl rfl ?_
    refine G_1_20 X dX1_takeBack_41 ?_
    obtain ⟨g3, h⟩ := h
    refine V_aald X (rfl : SLq 98 = 40) (by decide) (rfl : SK 98 = 17) g3 (grid_98 _ (vin_lt g3)) dX1_takeBack_44 ?_
    refine K_5_load X (Or.inl q_973) hk1 (gridr_98 _ (vin_lt g3)) h ⟨Nat.le_of_ble_eq_true rfl, Nat.le_of_ble_eq_true rfl⟩ ⟨Nat.zero_le _, Nat.zero_le _⟩ (st1 := []) (Nat.le_of_ble_eq_true rfl) dX1_takeBack_45 (fun w4 h => ?_)
    refine V_iconst X (v := (1 : Int32)) dX1_takeBack_48 (by decide) ?_
    exact V_zret_c X hr dX1_takeBack_49 rfl h
  · have h := hf c
    refine V_iconst X (v := (0 : Int32)) dX1_takeBack_7 (by decide) ?_
    exact V_zret_c X hr dX1_takeBack_8 rfl h
theorem c_1_takeBack {k1 : Nat} (hinj : INJ ad) (hk1 : isPlay k1) {w : Mem} {Q : Int32 → Mem → Prop} (h : wp_1_takeBack k1 w Q) : Met l yX1_takeBack (TBq yX1_takeBack cX1_takeBack 2 (some .boolean)) (RM 3) (va_Pc [.ref (ad 97), .ref (ad k1)] (PB ad cy D (cmb w wm) wl0)) (va_Qi Q (BC ad cy D wm wl0) (AW ad)) 0 0 (AW ad) := M_enter (by decide) (Nat.le_of_ble_eq_true rfl) hinj (fun p e s m args below meth c X hr => v_1_takeBack X hr hk1 h)
theorem mf_1_takeBack : MFV yX1_takeBack cX1_takeBack 2 (some .boolean) yX1_takeBack.cls 1 := ⟨q_972, q_970, q_971, q_10, by decide⟩
theorem K_1_takeBack {own : String} {idx : Nat} {k1 : Nat} (X : CXq p s m args meth c cc nL own ad cy D A H0) (hL : LK own idx yX1_takeBack) (hk1 : isPlay k1) {w : Mem} {Q : Int32 → Mem → Prop} (h : wp_1_takeBack k1 w Q) (hR : (RM 3).frames + 1 ≤ R.frames ∧ 8 + (2 + 11) + (RM 3).locals ≤ R.locals) (hce : ce ≤ R.cells ∧ sl ≤ R.slots) (hcat : (st1.map fun v => v.category).sum ≤ 8) (hd : decode cc pc = .ok (.invokevirtual idx, 3)) (kk : ∀ (r : Int32) (u : Mem), Q r u → V p l e R s m args below meth c nL ad cy D A H0 ce sl Qs u wm wl0 (pc + 3) ls (.int r :: st1)) : V p l e R s m args below meth c nL ad cy D A H0 ce sl Qs w wm wl0 pc ls (.ref (ad k1) :: .ref (ad 97) :: st1) := V_callVI_c X mf_1_takeBack hL (rfl : vwCl[1]? = some (RX1, TX1, 3)) (by decide) (rfl : SK 97 = 1) (Nat.lt_of_lt_of_le (by decide : 97 < 150) (CX_nn X)) (c_1_takeBack X.2.2.2.2.2.2.2.1 hk1 h) (As := [.ref (ad k1)]) rfl ⟨rfl, rfl⟩ hR hce st1 rfl hcat hd kk
set_option maxRecDepth 20000 in
theorem v_2_clear {k : Nat} (X : CXq p s m args meth c cX2_clear 1 yX2_clear.cls ad cy D (AW ad) s.heap) (hr : meth.sig.returnType = none) (hk : isLaw k) {w : Mem} {Q : Mem → Prop} (h : wp_2_clear k w Q) : V p l e (RM 0) s m args below meth c 1 ad cy D (AW ad) s.heap 0 0 (MQ below (va_Qv Q (BC ad cy D wm wl0) (AW ad)) args s 0 0 (AW ad)) w wm wl0 0 [(0, .ref (ad k))] [] := by
  unfold wp_2_clear at h
  refine V_aload_n X (i := 0) 0 dX2_clear_0 rfl rfl ?_
  refine V_iconst X (v := (0 : Int32)) dX2_clear_1 (by decide) ?_
  obtain ⟨w1, ew1⟩ : ∃ y : Mem, y = st w k 5 (0 : Int32) := ⟨_, rfl⟩
  have h := h w1 ew1
  refine U_2_27 X (hk).1 (hk).2.1 (Law_r5 hk) rfl rfl dX2_clear_2 ew1 ?_
  refine V_aload_n X (i := 0) 0 dX2_clear_5 rfl rfl ?_
  refine V_iconst X (v := (0 : Int32)) dX2_clear_6 (by decide) ?_
  obtain ⟨w2, ew2⟩ : ∃ y : Mem, y = st w1 k 6 (0 : Int32) := ⟨_, rfl⟩
  have h := h w2 ew2
  refine U_2_31 X (hk).1 (hk).2.1 (Law_r6 hk) rfl rfl dX2_clear_7 ew2 ?_
  exact V_vret_c X hr dX2_clear_10 h
theorem c_2_clear {k : Nat} (hinj : INJ ad) (hk : isLaw k) {w : Mem} {Q : Mem → Prop} (h : wp_2_clear k w Q) : Met l yX2_clear (TBq yX2_clear cX2_clear 1 none) (RM 0) (va_Pc [.ref (ad k)] (PB ad cy D (cmb w wm) wl0)) (va_Qv Q (BC ad cy D wm wl0) (AW ad)) 0 0 (AW ad) := M_enter (by decide) (Nat.le_of_ble_eq_true rfl) hinj (fun p e s m args below meth c X hr => v_2_clear X hr hk h)
theorem mf_2_clear : MFV yX2_clear cX2_clear 1 none yX2_clear.cls 0 := ⟨q_432, q_430, q_431, q_6, by decide⟩
theorem K_2_clear {own : String} {idx : Nat} {k : Nat} (X : CXq p s m args meth c cc nL own ad cy D A H0) (hL : LK own idx yX2_clear) (hk : isLaw k) {w : Mem} {Q : Mem → Prop} (h : wp_2_clear k w Q) (hR : (RM 0).frames + 1 ≤ R.frames ∧ 8 + (1 + 11) + (RM 0).locals ≤ R.locals) (hce : ce ≤ R.cells ∧ sl ≤ R.slots) (hcat : (st1.map fun v => v.category).sum ≤ 8) (hd : decode cc pc = .ok (.invokevirtual idx, 3)) (kk : ∀ (u : Mem), Q u → V p l e R s m args below meth c nL ad cy D A H0 ce sl Qs u wm wl0 (pc + 3) ls st1) : V p l e R s m args below meth c nL ad cy D A H0 ce sl Qs w wm wl0 pc ls (.ref (ad k) :: st1) := V_callVV_c X mf_2_clear hL (rfl : vwCl[2]? = some (RX2, TX2, 8)) (by decide) (hk).1 (Nat.lt_of_lt_of_le (hk).2.1 (CX_nn X)) (c_2_clear X.2.2.2.2.2.2.2.1 hk h) (As := []) rfl ⟨rfl, rfl⟩ hR hce st1 rfl hcat hd kk
set_option maxRecDepth 20000 in
theorem v_2_add {k : Nat} {a1 : Int32} {a2 : Int32} (X : CXq p s m args meth c cX2_add 3 yX2_add.cls ad cy D (AW ad) s.heap) (hr : meth.sig.returnType = none) (hk : isLaw k) {w : Mem} {Q : Mem → Prop} (h : wp_2_add k a1 a2 w Q) : V p l e (RM 0) s m args below meth c 3 ad cy D (AW ad) s.heap 0 0 (MQ below (va_Qv Q (BC ad cy D wm wl0) (AW ad)) args s 0 0 (AW ad)) w wm wl0 0 [(0, .ref (ad k)), (1, .int a1), (2, .int a2)] [] := by
  unfold wp_2_add at h
  refine V_aload_n X (i := 0) 0 dX2_add_0 rfl rfl ?_
  refine G_2_27 X (hk).1 (hk).2.1 (Law_r5 hk) dX2_add_1 ?_
  refine V_aload_n X (i := 0) 0 dX2_add_4 rfl rfl ?_
  refine G_2_9 X (hk).1 (hk).2.1 (Law_r0 hk) dX2_add_5 ?_
  refine V_alenL_c X (v := (400 : Int32)) ((Law_s0 hk)).2.1 ((Law_s0 hk)).2.2 (by decide) ((Law_s0 hk)).1 (by decide) dX2_add_8 ?_
  obtain ⟨ht, hf⟩ := h
  refine V_icmp_ge X (tgt := 42) dX2_add_9 (by decide) (fun c => ?_) (fun c => ?_)
  · have h := ht c
    exact V_vret_c X hr dX2_add_42 h
  · have h := hf c
    refine V_aload_n X (i := 0) 0 dX2_add_12 rfl rfl ?_
    refine G_2_9 X (hk).1 (hk).2.1 (Law_r0 hk) dX2_add_13 ?_
    refine V_aload_n X (i := 0) 0 dX2_add_16 rfl rfl ?_
    refine G_2_27 X (hk).1 (hk).2.1 (Law_r5 hk) dX2_add_17 ?_
    refine V_iload_n X (i := 1) 1 dX2_add_20 rfl rfl ?_
    obtain ⟨g1, h⟩ := h
    obtain ⟨w2, ew2⟩ : ∃ y : Mem, y = st w (k + 1) (ix (w k 5)) a1 := ⟨_, rfl⟩
    have h := h w2 ew2
    refine V_iast_c X ((Law_s0 hk)).2.1 ((Law_s0 hk)).2.2 ((Law_s0 hk)).1 g1 dX2_add_21 ew2 ?_
    refine V_aload_n X (i := 0) 0 dX2_add_22 rfl rfl ?_
    refine G_2_15 X (hk).1 (hk).2.1 (Law_r1 hk) dX2_add_23 ?_
    refine V_aload_n X (i := 0) 0 dX2_add_26 rfl rfl ?_
    refine G_2_27 X (hk).1 (hk).2.1 (Law_r5 hk) dX2_add_27 ?_
    refine V_iload_n X (i := 2) 2 dX2_add_30 rfl rfl ?_
    obtain ⟨g3, h⟩ := h
    obtain ⟨w4, ew4⟩ : ∃ y : Mem, y = st w2 (k + 2) (ix (w2 k 5)) a2 := ⟨_, rfl⟩
    have h := h w4 ew4
    refine V_iast_c X ((Law_s1 hk)).2.1 ((Law_s1 hk)).2.2 ((Law_s1 hk)).1 g3 dX2_add_31 ew4 ?_
    refine V_aload_n X (i := 0) 0 dX2_add_32 rfl rfl ?_
    refine V_dup X dX2_add_33 rfl ?_
    refine G_2_27 X (hk).1 (hk).2.1 (Law_r5 hk) dX2_add_34 ?_
    refine V_iconst X (v := (1 : Int32)) dX2_add_37 (by decide) ?_
    refine V_iadd X dX2_add_38 ?_
    obtain ⟨w5, ew5⟩ : ∃ y : Mem, y = st w4 k 5 ((w4 k 5) + (1 : Int32)) := ⟨_, rfl⟩
    have h := h w5 ew5
    refine U_2_27 X (hk).1 (hk).2.1 (Law_r5 hk) rfl rfl dX2_add_39 ew5 ?_
    exact V_vret_c X hr dX2_add_42 h
theorem c_2_add {k : Nat} {a1 : Int32} {a2 : Int32} (hinj : INJ ad) (hk : isLaw k) {w : Mem} {Q : Mem → Prop} (h : wp_2_add k a1 a2 w Q) : Met l yX2_add (TBq yX2_add cX2_add 3 none) (RM 0) (va_Pc [.ref (ad k), .int a1, .int a2] (PB ad cy D (cmb w wm) wl0)) (va_Qv Q (BC ad cy D wm wl0) (AW ad)) 0 0 (AW ad) := M_enter (by decide) (Nat.le_of_ble_eq_true rfl) hinj (fun p e s m args below meth c X hr => v_2_add X hr hk h)
theorem mf_2_add : MFV yX2_add cX2_add 3 none yX2_add.cls 2 := ⟨q_451, q_449, q_450, q_6, by decide⟩
theorem K_2_add {own : String} {idx : Nat} {k : Nat} {a1 : Int32} {a2 : Int32} (X : CXq p s m args meth c cc nL own ad cy D A H0) (hL : LK own idx yX2_add) (hk : isLaw k) {w : Mem} {Q : Mem → Prop} (h : wp_2_add k a1 a2 w Q) (hR : (RM 0).frames + 1 ≤ R.frames ∧ 8 + (3 + 11) + (RM 0).locals ≤ R.locals) (hce : ce ≤ R.cells ∧ sl ≤ R.slots) (hcat : (st1.map fun v => v.category).sum ≤ 8) (hd : decode cc pc = .ok (.invokevirtual idx, 3)) (kk : ∀ (u : Mem), Q u → V p l e R s m args below meth c nL ad cy D A H0 ce sl Qs u wm wl0 (pc + 3) ls st1) : V p l e R s m args below meth c nL ad cy D A H0 ce sl Qs w wm wl0 pc ls (.int a2 :: .int a1 :: .ref (ad k) :: st1) := V_callVV_c X mf_2_add hL (rfl : vwCl[2]? = some (RX2, TX2, 8)) (by decide) (hk).1 (Nat.lt_of_lt_of_le (hk).2.1 (CX_nn X)) (c_2_add X.2.2.2.2.2.2.2.1 hk h) (As := [.int a1, .int a2]) rfl ⟨rfl, rfl⟩ hR hce st1 rfl hcat hd kk
set_option maxRecDepth 20000 in
theorem v_2_endPiece {k : Nat} (X : CXq p s m args meth c cX2_endPiece 1 yX2_endPiece.cls ad cy D (AW ad) s.heap) (hr : meth.sig.returnType = none) (hk : isLaw k) {w : Mem} {Q : Mem → Prop} (h : wp_2_endPiece k w Q) : V p l e (RM 0) s m args below meth c 1 ad cy D (AW ad) s.heap 0 0 (MQ below (va_Qv Q (BC ad cy D wm wl0) (AW ad)) args s 0 0 (AW ad)) w wm wl0 0 [(0, .ref (ad k))] [] := by
  unfold wp_2_endPiece at h
  refine V_aload_n X (i := 0) 0 dX2_endPiece_0 rfl rfl ?_
  refine G_2_31 X (hk).1 (hk).2.1 (Law_r6 hk) dX2_endPiece_1 ?_
  refine V_aload_n X (i := 0) 0 dX2_endPiece_4 rfl rfl ?_
  refine G_2_18 X (hk).1 (hk).2.1 (Law_r2 hk) dX2_endPiece_5 ?_
  refine V_alenL_c X (v := (13 : Int32)) ((Law_s2 hk)).2.1 ((Law_s2 hk)).2.2 (by decide) ((Law_s2 hk)).1 (by decide) dX2_endPiece_8 ?_
  obtain ⟨ht, hf⟩ := h
  refine V_icmp_ge X (tgt := 35) dX2_endPiece_9 (by decide) (fun c => ?_) (fun c => ?_)
  · have h := ht c
    exact V_vret_c X hr dX2_endPiece_35 h
  · have h := hf c
    refine V_aload_n X (i := 0) 0 dX2_endPiece_12 rfl rfl ?_
    refine G_2_18 X (hk).1 (hk).2.1 (Law_r2 hk) dX2_endPiece_13 ?_
    refine V_aload_n X (i := 0) 0 dX2_endPiece_16 rfl rfl ?_
    refine G_2_31 X (hk).1 (hk).2.1 (Law_r6 hk) dX2_endPiece_17 ?_
    refine V_aload_n X (i := 0) 0 dX2_endPiece_20 rfl rfl ?_
    refine G_2_27 X (hk).1 (hk).2.1 (Law_r5 hk) dX2_endPiece_21 ?_
    obtain ⟨g1, h⟩ := h
    obtain ⟨w2, ew2⟩ : ∃ y : Mem, y = st w (k + 3) (ix (w k 6)) (w k 5) := ⟨_, rfl⟩
    have h := h w2 ew2
    refine V_iast_c X ((Law_s2 hk)).2.1 ((Law_s2 hk)).2.2 ((Law_s2 hk)).1 g1 dX2_endPiece_24 ew2 ?_
    refine V_aload_n X (i := 0) 0 dX2_endPiece_25 rfl rfl ?_
    refine V_dup X dX2_endPiece_26 rfl ?_
    refine G_2_31 X (hk).1 (hk).2.1 (Law_r6 hk) dX2_endPiece_27 ?_
    refine V_iconst X (v := (1 : Int32)) dX2_endPiece_30 (by decide) ?_
    refine V_iadd X dX2_endPiece_31 ?_
    obtain ⟨w3, ew3⟩ : ∃ y : Mem, y = st w2 k 6 ((w2 k 6) + (1 : Int32)) := ⟨_, rfl⟩
    have h := h w3 ew3
    refine U_2_31 X (hk).1 (hk).2.1 (Law_r6 hk) rfl rfl dX2_endPiece_32 ew3 ?_
    exact V_vret_c X hr dX2_endPiece_35 h
theorem c_2_endPiece {k : Nat} (hinj : INJ ad) (hk : isLaw k) {w : Mem} {Q : Mem → Prop} (h : wp_2_endPiece k w Q) : Met l yX2_endPiece (TBq yX2_endPiece cX2_endPiece 1 none) (RM 0) (va_Pc [.ref (ad k)] (PB ad cy D (cmb w wm) wl0)) (va_Qv Q (BC ad cy D wm wl0) (AW ad)) 0 0 (AW ad) := M_enter (by decide) (Nat.le_of_ble_eq_true rfl) hinj (fun p e s m args below meth c X hr => v_2_endPiece X hr hk h)
theorem mf_2_endPiece : MFV yX2_endPiece cX2_endPiece 1 none yX2_endPiece.cls 0 := ⟨q_455, q_453, q_454, q_6, by decide⟩
theorem K_2_endPiece {own : String} {idx : Nat} {k : Nat} (X : CXq p s m args meth c cc nL own ad cy D A H0) (hL : LK own idx yX2_endPiece) (hk : isLaw k) {w : Mem} {Q : Mem → Prop} (h : wp_2_endPiece k w Q) (hR : (RM 0).frames + 1 ≤ R.frames ∧ 8 + (1 + 11) + (RM 0).locals ≤ R.locals) (hce : ce ≤ R.cells ∧ sl ≤ R.slots) (hcat : (st1.map fun v => v.category).sum ≤ 8) (hd : decode cc pc = .ok (.invokevirtual idx, 3)) (kk : ∀ (u : Mem), Q u → V p l e R s m args below meth c nL ad cy D A H0 ce sl Qs u wm wl0 (pc + 3) ls st1) : V p l e R s m args below meth c nL ad cy D A H0 ce sl Qs w wm wl0 pc ls (.ref (ad k) :: st1) := V_callVV_c X mf_2_endPiece hL (rfl : vwCl[2]? = some (RX2, TX2, 8)) (by decide) (hk).1 (Nat.lt_of_lt_of_le (hk).2.1 (CX_nn X)) (c_2_endPiece X.2.2.2.2.2.2.2.1 hk h) (As := []) rfl ⟨rfl, rfl⟩ hR hce st1 rfl hcat hd kk
set_option maxRecDepth 20000 in
theorem v_2_fillUntold {k : Nat} {a1 : Int32} (X : CXq p s m args meth c cX2_fillUntold 2 yX2_fillUntold.cls ad cy D (AW ad) s.heap) (hr : meth.sig.returnType = none) (hk : isLaw k) {w : Mem} {Q : Mem → Prop} (h : wp_2_fillUntold k a1 w Q) : V p l e (RM 1) s m args below meth c 2 ad cy D (AW ad) s.heap 0 0 (MQ below (va_Qv Q (BC ad cy D wm wl0) (AW ad)) args s 0 0 (AW ad)) w wm wl0 0 [(0, .ref (ad k)), (1, .int a1)] [] := by
  unfold wp_2_fillUntold at h
  refine V_aload_n X (i := 0) 0 dX2_fillUntold_0 rfl rfl ?_
  refine G_2_31 X (hk).1 (hk).2.1 (Law_r6 hk) dX2_fillUntold_1 ?_
  obtain ⟨ht, hf⟩ := h
  refine V_if_ne X (tgt := 17) dX2_fillUntold_4 (by decide) (fun c => ?_) (fun c => ?_)
  · have h := ht c
    exact V_vret_c X hr dX2_fillUntold_17 h
  · have h := hf c
    refine V_aload_n X (i := 0) 0 dX2_fillUntold_7 rfl rfl ?_
    refine V_iconst X (v := (0 : Int32)) dX2_fillUntold_8 (by decide) ?_
    refine V_iload_n X (i := 1) 1 dX2_fillUntold_9 rfl rfl ?_
    refine K_2_add X (Or.inl q_448) hk h ⟨Nat.le_of_ble_eq_true rfl, Nat.le_of_ble_eq_true rfl⟩ ⟨Nat.zero_le _, Nat.zero_le _⟩ (st1 := []) (Nat.le_of_ble_eq_true rfl) dX2_fillUntold_10 (fun w1 h => ?_)
    refine V_aload_n X (i := 0) 0 dX2_fillUntold_13 rfl rfl ?_
    refine K_2_endPiece X (Or.inl q_452) hk h ⟨Nat.le_of_ble_eq_true rfl, Nat.le_of_ble_eq_true rfl⟩ ⟨Nat.zero_le _, Nat.zero_le _⟩ (st1 := []) (Nat.le_of_ble_eq_true rfl) dX2_fillUntold_14 (fun w2 h => ?_)
    exact V_vret_c X hr dX2_fillUntold_17 h
theorem c_2_fillUntold {k : Nat} {a1 : Int32} (hinj : INJ ad) (hk : isLaw k) {w : Mem} {Q : Mem → Prop} (h : wp_2_fillUntold k a1 w Q) : Met l yX2_fillUntold (TBq yX2_fillUntold cX2_fillUntold 2 none) (RM 1) (va_Pc [.ref (ad k), .int a1] (PB ad cy D (cmb w wm) wl0)) (va_Qv Q (BC ad cy D wm wl0) (AW ad)) 0 0 (AW ad) := M_enter (by decide) (Nat.le_of_ble_eq_true rfl) hinj (fun p e s m args below meth c X hr => v_2_fillUntold X hr hk h)
theorem mf_2_fillUntold : MFV yX2_fillUntold cX2_fillUntold 2 none yX2_fillUntold.cls 1 := ⟨q_447, q_445, q_446, q_6, by decide⟩
theorem K_2_fillUntold {own : String} {idx : Nat} {k : Nat} {a1 : Int32} (X : CXq p s m args meth c cc nL own ad cy D A H0) (hL : LK own idx yX2_fillUntold) (hk : isLaw k) {w : Mem} {Q : Mem → Prop} (h : wp_2_fillUntold k a1 w Q) (hR : (RM 1).frames + 1 ≤ R.frames ∧ 8 + (2 + 11) + (RM 1).locals ≤ R.locals) (hce : ce ≤ R.cells ∧ sl ≤ R.slots) (hcat : (st1.map fun v => v.category).sum ≤ 8) (hd : decode cc pc = .ok (.invokevirtual idx, 3)) (kk : ∀ (u : Mem), Q u → V p l e R s m args below meth c nL ad cy D A H0 ce sl Qs u wm wl0 (pc + 3) ls st1) : V p l e R s m args below meth c nL ad cy D A H0 ce sl Qs w wm wl0 pc ls (.int a1 :: .ref (ad k) :: st1) := V_callVV_c X mf_2_fillUntold hL (rfl : vwCl[2]? = some (RX2, TX2, 8)) (by decide) (hk).1 (Nat.lt_of_lt_of_le (hk).2.1 (CX_nn X)) (c_2_fillUntold X.2.2.2.2.2.2.2.1 hk h) (As := [.int a1]) rfl ⟨rfl, rfl⟩ hR hce st1 rfl hcat hd kk
end
