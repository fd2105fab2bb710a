-- printed by wip/whole/gen6.py out of the decode rows and the tables
section
variable {p : Program} {l : Launch} {e : Env} {R : Room} {s : State} {m : MethodId} {args : Array Value} {below : List Frame} {meth : Method} {c : Code} {cc : ByteArray} {nL : Nat} {ad : Nat → Nat} {cy : Nat → ClassId} {D : va_G} {A : Nat → Prop} {H0 : Heap} {ce sl : Nat} {Qs : State → Prop} {wc wm : Mem} {wl0 : MemL} {pc : Nat} {ls : List (Nat × Value)} {st1 : List Value}
set_option maxRecDepth 20000 in
theorem v_4_clear {k : Nat} (X : CXq p s m args meth c cX4_clear 1 yX4_clear.cls ad cy D (AW ad) s.heap) (hr : meth.sig.returnType = none) (hk : isPeople k) {w : Mem} {Q : Mem → Prop} (h : wp_4_clear k w Q) : V p l e (RM 0) s m args below meth c 1 ad cy D (AW ad) s.heap 0 0 (MQ below (va_Qv Q (BC ad cy D wm wl0) (AW ad)) args s 0 0 (AW ad)) w wm wl0 0 [(0, .ref (ad k))] [] := by
  unfold wp_4_clear at h
  refine V_aload_n X (i := 0) 0 dX4_clear_0 rfl rfl ?_
  refine V_iconst X (v := (0 : Int32)) dX4_clear_1 (by decide) ?_
  obtain ⟨w1, ew1⟩ : ∃ y : Mem, y = st w k 6 (0 : Int32) := ⟨_, rfl⟩
  have h := h w1 ew1
  refine U_4_30 X (hk).1 (hk).2.1 (People_r6 hk) rfl rfl dX4_clear_2 ew1 ?_
  refine V_aload_n X (i := 0) 0 dX4_clear_5 rfl rfl ?_
  refine V_iconst X (v := (0 : Int32)) dX4_clear_6 (by decide) ?_
  obtain ⟨w2, ew2⟩ : ∃ y : Mem, y = st w1 k 7 (0 : Int32) := ⟨_, rfl⟩
  have h := h w2 ew2
  refine U_4_34 X (hk).1 (hk).2.1 (People_r7 hk) rfl rfl dX4_clear_7 ew2 ?_
  exact V_vret_c X hr dX4_clear_10 h
theorem c_4_clear {k : Nat} (hinj : INJ ad) (hk : isPeople k) {w : Mem} {Q : Mem → Prop} (h : wp_4_clear k w Q) : Met l yX4_clear (TBq yX4_clear cX4_clear 1 none) (RM 0) (va_Pc [.ref (ad k)] (PB ad cy D (cmb w wm) wl0)) (va_Qv Q (BC ad cy D wm wl0) (AW ad)) 0 0 (AW ad) := M_enter (by decide) (Nat.le_of_ble_eq_true rfl) hinj (fun p e s m args below meth c X hr => v_4_clear X hr hk h)
theorem mf_4_clear : MFV yX4_clear cX4_clear 1 none yX4_clear.cls 0 := ⟨q_439, q_437, q_438, q_7, by decide⟩
theorem K_4_clear {own : String} {idx : Nat} {k : Nat} (X : CXq p s m args meth c cc nL own ad cy D A H0) (hL : LK own idx yX4_clear) (hk : isPeople k) {w : Mem} {Q : Mem → Prop} (h : wp_4_clear k w Q) (hR : (RM 0).frames + 1 ≤ R.frames ∧ 8 + (1 + 11) + (RM 0).locals ≤ R.locals) (hce : ce ≤ R.cells ∧ sl ≤ R.slots) (hcat : (st1.map fun v => v.category).sum ≤ 8) (hd : decode cc pc = .ok (.invokevirtual idx, 3)) (kk : ∀ (u : Mem), Q u → V p l e R s m args below meth c nL ad cy D A H0 ce sl Qs u wm wl0 (pc + 3) ls st1) : V p l e R s m args below meth c nL ad cy D A H0 ce sl Qs w wm wl0 pc ls (.ref (ad k) :: st1) := V_callVV_c X mf_4_clear hL (rfl : vwCl[4]? = some (RX4, TX4, 8)) (by decide) (hk).1 (Nat.lt_of_lt_of_le (hk).2.1 (CX_nn X)) (c_4_clear X.2.2.2.2.2.2.2.1 hk h) (As := []) rfl ⟨rfl, rfl⟩ hR hce st1 rfl hcat hd kk
set_option maxRecDepth 20000 in
theorem v_8_clear {k : Nat} (X : CXq p s m args meth c cX8_clear 1 yX8_clear.cls ad cy D (AW ad) s.heap) (hr : meth.sig.returnType = none) (hk : isText k) {w : Mem} {Q : Mem → Prop} (h : wp_8_clear k w Q) : V p l e (RM 1) s m args below meth c 1 ad cy D (AW ad) s.heap 0 0 (MQ below (va_Qv Q (BC ad cy D wm wl0) (AW ad)) args s 0 0 (AW ad)) w wm wl0 0 [(0, .ref (ad k))] [] := by
  unfold wp_8_clear at h
  refine V_aload_n X (i := 0) 0 dX8_clear_0 rfl rfl ?_
  refine G_8_12 X (hk).1 (hk).2.1 (Text_r0 hk) dX8_clear_1 ?_
  refine K_2_clear X (Or.inl q_429) (Text_s0 hk) h ⟨Nat.le_of_ble_eq_true rfl, Nat.le_of_ble_eq_true rfl⟩ ⟨Nat.zero_le _, Nat.zero_le _⟩ (st1 := []) (Nat.le_of_ble_eq_true rfl) dX8_clear_4 (fun w1 h => ?_)
  refine V_aload_n X (i := 0) 0 dX8_clear_7 rfl rfl ?_
  refine G_8_18 X (hk).1 (hk).2.1 (Text_r1 hk) dX8_clear_8 ?_
  refine K_2_clear X (Or.inl q_429) (Text_s1 hk) h ⟨Nat.le_of_ble_eq_true rfl, Nat.le_of_ble_eq_true rfl⟩ ⟨Nat.zero_le _, Nat.zero_le _⟩ (st1 := []) (Nat.le_of_ble_eq_true rfl) dX8_clear_11 (fun w2 h => ?_)
  refine V_aload_n X (i := 0) 0 dX8_clear_14 rfl rfl ?_
  refine G_8_21 X (hk).1 (hk).2.1 (Text_r2 hk) dX8_clear_15 ?_
  refine K_2_clear X (Or.inl q_429) (Text_s2 hk) h ⟨Nat.le_of_ble_eq_true rfl, Nat.le_of_ble_eq_true rfl⟩ ⟨Nat.zero_le _, Nat.zero_le _⟩ (st1 := []) (Nat.le_of_ble_eq_true rfl) dX8_clear_18 (fun w3 h => ?_)
  refine V_aload_n X (i := 0) 0 dX8_clear_21 rfl rfl ?_
  refine G_8_24 X (hk).1 (hk).2.1 (Text_r3 hk) dX8_clear_22 ?_
  refine K_2_clear X (Or.inl q_429) (Text_s3 hk) h ⟨Nat.le_of_ble_eq_true rfl, Nat.le_of_ble_eq_true rfl⟩ ⟨Nat.zero_le _, Nat.zero_le _⟩ (st1 := []) (Nat.le_of_ble_eq_true rfl) dX8_clear_25 (fun w4 h => ?_)
  refine V_aload_n X (i := 0) 0 dX8_clear_28 rfl rfl ?_
  refine G_8_27 X (hk).1 (hk).2.1 (Text_r4 hk) dX8_clear_29 ?_
  refine K_2_clear X (Or.inl q_429) (Text_s4 hk) h ⟨Nat.le_of_ble_eq_true rfl, Nat.le_of_ble_eq_true rfl⟩ ⟨Nat.zero_le _, Nat.zero_le _⟩ (st1 := []) (Nat.le_of_ble_eq_true rfl) dX8_clear_32 (fun w5 h => ?_)
  refine V_aload_n X (i := 0) 0 dX8_clear_35 rfl rfl ?_
  refine G_8_30 X (hk).1 (hk).2.1 (Text_r5 hk) dX8_clear_36 ?_
  refine V_iconst X (v := (1 : Int32)) dX8_clear_39 (by decide) ?_
  refine K_J7_fill_53178 X (Or.inl q_433) (Text_s5 hk) h ⟨Nat.le_of_ble_eq_true rfl, Nat.le_of_ble_eq_true rfl⟩ ⟨Nat.zero_le _, Nat.zero_le _⟩ (st1 := []) (Nat.le_of_ble_eq_true rfl) dX8_clear_40 (fun w6 h => ?_)
  refine V_aload_n X (i := 0) 0 dX8_clear_43 rfl rfl ?_
  refine G_8_37 X (hk).1 (hk).2.1 (Text_r6 hk) dX8_clear_44 ?_
  refine K_4_clear X (Or.inl q_436) (Text_s6 hk) h ⟨Nat.le_of_ble_eq_true rfl, Nat.le_of_ble_eq_true rfl⟩ ⟨Nat.zero_le _, Nat.zero_le _⟩ (st1 := []) (Nat.le_of_ble_eq_true rfl) dX8_clear_47 (fun w7 h => ?_)
  refine V_aload_n X (i := 0) 0 dX8_clear_50 rfl rfl ?_
  refine V_sipush X (v := (900 : Int32)) dX8_clear_51 (by decide) ?_
  obtain ⟨w8, ew8⟩ : ∃ y : Mem, y = st w7 k 7 (900 : Int32) := ⟨_, rfl⟩
  have h := h w8 ew8
  refine U_8_51 X (hk).1 (hk).2.1 (Text_r7 hk) rfl rfl dX8_clear_54 ew8 ?_
  refine V_aload_n X (i := 0) 0 dX8_clear_57 rfl rfl ?_
  refine V_sipush X (v := (1000 : Int32)) dX8_clear_58 (by decide) ?_
  obtain ⟨w9, ew9⟩ : ∃ y : Mem, y = st w8 k 8 (1000 : Int32) := ⟨_, rfl⟩
  have h := h w9 ew9
  refine U_8_55 X (hk).1 (hk).2.1 (Text_r8 hk) rfl rfl dX8_clear_61 ew9 ?_
  refine V_aload_n X (i := 0) 0 dX8_clear_64 rfl rfl ?_
  refine V_bipush X (v := (20 : Int32)) dX8_clear_65 (by decide) ?_
  obtain ⟨w10, ew10⟩ : ∃ y : Mem, y = st w9 k 9 (20 : Int32) := ⟨_, rfl⟩
  have h := h w10 ew10
  refine U_8_58 X (hk).1 (hk).2.1 (Text_r9 hk) rfl rfl dX8_clear_67 ew10 ?_
  refine V_aload_n X (i := 0) 0 dX8_clear_70 rfl rfl ?_
  refine V_iconst X (v := (0 : Int32)) dX8_clear_71 (by decide) ?_
  obtain ⟨w11, ew11⟩ : ∃ y : Mem, y = st w10 k 10 (0 : Int32) := ⟨_, rfl⟩
  have h := h w11 ew11
  refine U_8_61 X (hk).1 (hk).2.1 (Text_r10 hk) rfl rfl dX8_clear_72 ew11 ?_
  refine V_aload_n X (i := 0) 0 dX8_clear_75 rfl rfl ?_
  refine V_iconst X (v := (0 : Int32)) dX8_clear_76 (by decide) ?_
  obtain ⟨w12, ew12⟩ : ∃ y : Mem, y = st w11 k 11 (0 : Int32) := ⟨_, rfl⟩
  have h := h w12 ew12
  refine U_8_64 X (hk).1 (hk).2.1 (Text_r11 hk) rfl rfl dX8_clear_77 ew12 ?_
  refine V_aload_n X (i := 0) 0 dX8_clear_80 rfl rfl ?_
  refine V_bipush X (v := (10 : Int32)) dX8_clear_81 (by decide) ?_
  obtain ⟨w13, ew13⟩ : ∃ y : Mem, y = st w12 k 12 (10 : Int32) := ⟨_, rfl⟩
  have h := h w13 ew13
  refine U_8_67 X (hk).1 (hk).2.1 (Text_r12 hk) rfl rfl dX8_clear_83 ew13 ?_
  refine V_aload_n X (i := 0) 0 dX8_clear_86 rfl rfl ?_
  refine V_bipush X (v := (60 : Int32)) dX8_clear_87 (by decide) ?_
  obtain ⟨w14, ew14⟩ : ∃ y : Mem, y = st w13 k 13 (60 : Int32) := ⟨_, rfl⟩
  have h := h w14 ew14
  refine U_8_70 X (hk).1 (hk).2.1 (Text_r13 hk) rfl rfl dX8_clear_89 ew14 ?_
  refine V_aload_n X (i := 0) 0 dX8_clear_92 rfl rfl ?_
  refine V_bipush X (v := (20 : Int32)) dX8_clear_93 (by decide) ?_
  obtain ⟨w15, ew15⟩ : ∃ y : Mem, y = st w14 k 14 (20 : Int32) := ⟨_, rfl⟩
  have h := h w15 ew15
  refine U_8_73 X (hk).1 (hk).2.1 (Text_r14 hk) rfl rfl dX8_clear_95 ew15 ?_
  refine V_aload_n X (i := 0) 0 dX8_clear_98 rfl rfl ?_
  refine V_bipush X (v := (50 : Int32)) dX8_clear_99 (by decide) ?_
  obtain ⟨w16, ew16⟩ : ∃ y : Mem, y = st w15 k 15 (50 : Int32) := ⟨_, rfl⟩
  have h := h w16 ew16
  refine U_8_76 X (hk).1 (hk).2.1 (Text_r15 hk) rfl rfl dX8_clear_101 ew16 ?_
  refine V_aload_n X (i := 0) 0 dX8_clear_104 rfl rfl ?_
  refine V_bipush X (v := (8 : Int32)) dX8_clear_105 (by decide) ?_
  obtain ⟨w17, ew17⟩ : ∃ y : Mem, y = st w16 k 16 (8 : Int32) := ⟨_, rfl⟩
  have h := h w17 ew17
  refine U_8_79 X (hk).1 (hk).2.1 (Text_r16 hk) rfl rfl dX8_clear_107 ew17 ?_
  refine V_aload_n X (i := 0) 0 dX8_clear_110 rfl rfl ?_
  refine V_iconst X (v := (0 : Int32)) dX8_clear_111 (by decide) ?_
  obtain ⟨w18, ew18⟩ : ∃ y : Mem, y = st w17 k 17 (0 : Int32) := ⟨_, rfl⟩
  have h := h w18 ew18
  refine U_8_82 X (hk).1 (hk).2.1 (Text_r17 hk) rfl rfl dX8_clear_112 ew18 ?_
  exact V_vret_c X hr dX8_clear_115 h
theorem c_8_clear {k : Nat} (hinj : INJ ad) (hk : isText k) {w : Mem} {Q : Mem → Prop} (h : wp_8_clear k w Q) : Met l yX8_clear (TBq yX8_clear cX8_clear 1 none) (RM 1) (va_Pc [.ref (ad k)] (PB ad cy D (cmb w wm) wl0)) (va_Qv Q (BC ad cy D wm wl0) (AW ad)) 0 0 (AW ad) := M_enter (by decide) (Nat.le_of_ble_eq_true rfl) hinj (fun p e s m args below meth c X hr => v_8_clear X hr hk h)
theorem mf_8_clear : MFV yX8_clear cX8_clear 1 none yX8_clear.cls 0 := ⟨q_428, q_426, q_427, q_5, by decide⟩
theorem K_8_clear {own : String} {idx : Nat} {k : Nat} (X : CXq p s m args meth c cc nL own ad cy D A H0) (hL : LK own idx yX8_clear) (hk : isText k) {w : Mem} {Q : Mem → Prop} (h : wp_8_clear k w Q) (hR : (RM 1).frames + 1 ≤ R.frames ∧ 8 + (1 + 11) + (RM 1).locals ≤ R.locals) (hce : ce ≤ R.cells ∧ sl ≤ R.slots) (hcat : (st1.map fun v => v.category).sum ≤ 8) (hd : decode cc pc = .ok (.invokevirtual idx, 3)) (kk : ∀ (u : Mem), Q u → V p l e R s m args below meth c nL ad cy D A H0 ce sl Qs u wm wl0 (pc + 3) ls st1) : V p l e R s m args below meth c nL ad cy D A H0 ce sl Qs w wm wl0 pc ls (.ref (ad k) :: st1) := V_callVV_c X mf_8_clear hL (rfl : vwCl[8]? = some (RX8, TX8, 18)) (by decide) (hk).1 (Nat.lt_of_lt_of_le (hk).2.1 (CX_nn X)) (c_8_clear X.2.2.2.2.2.2.2.1 hk h) (As := []) rfl ⟨rfl, rfl⟩ hR hce st1 rfl hcat hd kk
set_option maxRecDepth 20000 in
theorem v_3_fails {a1 : Int32} (X : CXq p s m args meth c cX3_fails 2 yX3_fails.cls ad cy D (AW ad) s.heap) (hr : meth.sig.returnType = (some .boolean)) {w : Mem} {Q : Int32 → Mem → Prop} (h : wp_3_fails a1 w Q) : V p l e (RM 0) s m args below meth c 2 ad cy D (AW ad) s.heap 0 0 (MQ below (va_Qi Q (BC ad cy D wm wl0) (AW ad)) args s 0 0 (AW ad)) w wm wl0 0 [(0, .ref (ad 7)), (1, .int a1)] [] := by
  unfold wp_3_fails at h
  refine V_aload_n X (i := 0) 0 dX3_fails_0 rfl rfl ?_
  refine V_iload_n X (i := 1) 1 dX3_fails_1 rfl rfl ?_
  obtain ⟨w1, ew1⟩ : ∃ y : Mem, y = st w 7 5 a1 := ⟨_, rfl⟩
  have h := h w1 ew1
  refine U_3_26 X rfl rfl dX3_fails_2 ew1 ?_
  refine V_aload_n X (i := 0) 0 dX3_fails_5 rfl rfl ?_
  refine V_aload_n X (i := 0) 0 dX3_fails_6 rfl rfl ?_
  refine G_3_15 X dX3_fails_7 ?_
  refine G_3_196 X dX3_fails_10 ?_
  refine V_aload_n X (i := 0) 0 dX3_fails_13 rfl rfl ?_
  refine G_3_19 X dX3_fails_14 ?_
  obtain ⟨g2, h⟩ := h
  refine V_iald_c X (rfl : SLq 5 = 401) (by decide) (rfl : SK 5 = 14) g2 dX3_fails_17 ?_
  obtain ⟨w3, ew3⟩ : ∃ y : Mem, y = st w1 7 6 (w1 5 (ix (w1 7 3))) := ⟨_, rfl⟩
  have h := h w3 ew3
  refine U_3_29 X rfl rfl dX3_fails_18 ew3 ?_
  refine V_iconst X (v := (0 : Int32)) dX3_fails_21 (by decide) ?_
  exact V_zret_c X hr dX3_fails_22 rfl h
theorem c_3_fails {a1 : Int32} (hinj : INJ ad) {w : Mem} {Q : Int32 → Mem → Prop} (h : wp_3_fails a1 w Q) : Met l yX3_fails (TBq yX3_fails cX3_fails 2 (some .boolean)) (RM 0) (va_Pc [.ref (ad 7), .int a1] (PB ad cy D (cmb w wm) wl0)) (va_Qi Q (BC ad cy D wm wl0) (AW ad)) 0 0 (AW ad) := M_enter (by decide) (Nat.le_of_ble_eq_true rfl) hinj (fun p e s m args below meth c X hr => v_3_fails X hr h)
theorem mf_3_fails : MFV yX3_fails cX3_fails 2 (some .boolean) yX3_fails.cls 1 := ⟨q_697, q_696, qs_7, q_4, by decide⟩
theorem K_3_fails {own : String} {idx : Nat} {a1 : Int32} (X : CXq p s m args meth c cc nL own ad cy D A H0) (hL : LK own idx yX3_fails) {w : Mem} {Q : Int32 → Mem → Prop} (h : wp_3_fails a1 w Q) (hR : (RM 0).frames + 1 ≤ R.frames ∧ 8 + (2 + 11) + (RM 0).locals ≤ R.locals) (hce : ce ≤ R.cells ∧ sl ≤ R.slots) (hcat : (st1.map fun v => v.category).sum ≤ 8) (hd : decode cc pc = .ok (.invokevirtual idx, 3)) (kk : ∀ (r : Int32) (u : Mem), Q r u → V p l e R s m args below meth c nL ad cy D A H0 ce sl Qs u wm wl0 (pc + 3) ls (.int r :: st1)) : V p l e R s m args below meth c nL ad cy D A H0 ce sl Qs w wm wl0 pc ls (.int a1 :: .ref (ad 7) :: st1) := V_callVI_c X mf_3_fails hL (rfl : vwCl[3]? = some (RX3, TX3, 9)) (by decide) (rfl : SK 7 = 3) (Nat.lt_of_lt_of_le (by decide : 7 < 150) (CX_nn X)) (c_3_fails X.2.2.2.2.2.2.2.1 h) (As := [.int a1]) rfl ⟨rfl, rfl⟩ hR hce st1 rfl hcat hd kk
set_option maxRecDepth 20000 in
theorem v_4_isFull_b36 (X : CXq p s m args meth c cX4_isFull 2 yX4_isFull.cls ad cy D (AW ad) s.heap) (hr : meth.sig.returnType = (some .boolean)) {k : Nat} (hk : isPeople k) {Q : Int32 → Mem → Prop} : ∀ (w : Mem), wp_4_isFull_b36 k Q w → V p l e (RM 0) s m args below meth c 2 ad cy D (AW ad) s.heap 0 0 (MQ below (va_Qi Q (BC ad cy D wm wl0) (AW ad)) args s 0 0 (AW ad)) w wm wl0 36 [] [] := by
  intro w h
  unfold wp_4_isFull_b36 at h
  refine V_iconst X (v := (0 : Int32)) dX4_isFull_36 (by decide) ?_
  exact V_zret_c X hr dX4_isFull_37 rfl h
set_option maxRecDepth 20000 in
theorem v_4_isFull_b32 (X : CXq p s m args meth c cX4_isFull 2 yX4_isFull.cls ad cy D (AW ad) s.heap) (hr : meth.sig.returnType = (some .boolean)) {k : Nat} (hk : isPeople k) {Q : Int32 → Mem → Prop} : ∀ (w : Mem), wp_4_isFull_b32 k Q w → V p l e (RM 0) s m args below meth c 2 ad cy D (AW ad) s.heap 0 0 (MQ below (va_Qi Q (BC ad cy D wm wl0) (AW ad)) args s 0 0 (AW ad)) w wm wl0 32 [] [] := by
  intro w h
  unfold wp_4_isFull_b32 at h
  refine V_iconst X (v := (1 : Int32)) dX4_isFull_32 (by decide) ?_
  refine V_goto X (tgt := 37) dX4_isFull_33 (by decide) ?_
  exact V_zret_c X hr dX4_isFull_37 rfl h
set_option maxRecDepth 20000 in
theorem v_4_isFull_b16 (X : CXq p s m args meth c cX4_isFull 2 yX4_isFull.cls ad cy D (AW ad) s.heap) (hr : meth.sig.returnType = (some .boolean)) {k : Nat} (hk : isPeople k) {Q : Int32 → Mem → Prop} : ∀ (l1 : Int32) (w : Mem), wp_4_isFull_b16 k Q l1 w → V p l e (RM 0) s m args below meth c 2 ad cy D (AW ad) s.heap 0 0 (MQ below (va_Qi Q (BC ad cy D wm wl0) (AW ad)) args s 0 0 (AW ad)) w wm wl0 16 [(0, .ref (ad k)), (1, .int l1)] [] := by
  intro l1 w h
  unfold wp_4_isFull_b16 at h
  refine V_iload_n X (i := 1) 1 dX4_isFull_16 rfl rfl ?_
  refine V_sipush X (v := (136 : Int32)) dX4_isFull_17 (by decide) ?_
  obtain ⟨ht, hf⟩ := h
  refine V_icmp_ne X (tgt := 36) dX4_isFull_20 (by decide) (fun c => ?_) (fun c => ?_)
  · have h := ht c
    refine V_sub X (ls1 := []) [] rfl ?_
    exact v_4_isFull_b36 X hr hk _ h
  · have h := hf c
    refine V_aload_n X (i := 0) 0 dX4_isFull_23 rfl rfl ?_
    refine G_4_34 X (hk).1 (hk).2.1 (People_r7 hk) dX4_isFull_24 ?_
    refine V_bipush X (v := (7 : Int32)) dX4_isFull_27 (by decide) ?_
    obtain ⟨ht, hf⟩ := h
    refine V_icmp_lt X (tgt := 36) dX4_isFull_29 (by decide) (fun c => ?_) (fun c => ?_)
    · have h := ht c
      refine V_sub X (ls1 := []) [] rfl ?_
      exact v_4_isFull_b36 X hr hk _ h
    · have h := hf c
      refine V_sub X (ls1 := []) [] rfl ?_
      exact v_4_isFull_b32 X hr hk _ h
set_option maxRecDepth 20000 in
theorem v_4_isFull {k : Nat} {a1 : Int32} (X : CXq p s m args meth c cX4_isFull 2 yX4_isFull.cls ad cy D (AW ad) s.heap) (hr : meth.sig.returnType = (some .boolean)) (hk : isPeople k) {w : Mem} {Q : Int32 → Mem → Prop} (h : wp_4_isFull k a1 w Q) : V p l e (RM 0) s m args below meth c 2 ad cy D (AW ad) s.heap 0 0 (MQ below (va_Qi Q (BC ad cy D wm wl0) (AW ad)) args s 0 0 (AW ad)) w wm wl0 0 [(0, .ref (ad k)), (1, .int a1)] [] := by
  unfold wp_4_isFull at h
  refine V_iload_n X (i := 1) 1 dX4_isFull_0 rfl rfl ?_
  refine V_sipush X (v := (135 : Int32)) dX4_isFull_1 (by decide) ?_
  obtain ⟨ht, hf⟩ := h
  refine V_icmp_ne X (tgt := 16) dX4_isFull_4 (by decide) (fun c => ?_) (fun c => ?_)
  · have h := ht c
    refine V_sub X (ls1 := [(0, .ref (ad k)), (1, .int a1)]) [0, 1] rfl ?_
    exact v_4_isFull_b16 X hr hk _ _ h
  · have h := hf c
    refine V_aload_n X (i := 0) 0 dX4_isFull_7 rfl rfl ?_
    refine G_4_30 X (hk).1 (hk).2.1 (People_r6 hk) dX4_isFull_8 ?_
    refine V_bipush X (v := (8 : Int32)) dX4_isFull_11 (by decide) ?_
    obtain ⟨ht, hf⟩ := h
    refine V_icmp_ge X (tgt := 32) dX4_isFull_13 (by decide) (fun c => ?_) (fun c => ?_)
    · have h := ht c
      refine V_sub X (ls1 := []) [] rfl ?_
      exact v_4_isFull_b32 X hr hk _ h
    · have h := hf c
      refine V_sub X (ls1 := [(0, .ref (ad k)), (1, .int a1)]) [0, 1] rfl ?_
      exact v_4_isFull_b16 X hr hk _ _ h
theorem c_4_isFull {k : Nat} {a1 : Int32} (hinj : INJ ad) (hk : isPeople k) {w : Mem} {Q : Int32 → Mem → Prop} (h : wp_4_isFull k a1 w Q) : Met l yX4_isFull (TBq yX4_isFull cX4_isFull 2 (some .boolean)) (RM 0) (va_Pc [.ref (ad k), .int a1] (PB ad cy D (cmb w wm) wl0)) (va_Qi Q (BC ad cy D wm wl0) (AW ad)) 0 0 (AW ad) := M_enter (by decide) (Nat.le_of_ble_eq_true rfl) hinj (fun p e s m args below meth c X hr => v_4_isFull X hr hk h)
theorem mf_4_isFull : MFV yX4_isFull cX4_isFull 2 (some .boolean) yX4_isFull.cls 1 := ⟨q_701, q_699, q_700, q_7, by decide⟩
theorem K_4_isFull {own : String} {idx : Nat} {k : Nat} {a1 : Int32} (X : CXq p s m args meth c cc nL own ad cy D A H0) (hL : LK own idx yX4_isFull) (hk : isPeople k) {w : Mem} {Q : Int32 → Mem → Prop} (h : wp_4_isFull k a1 w Q) (hR : (RM 0).frames + 1 ≤ R.frames ∧ 8 + (2 + 11) + (RM 0).locals ≤ R.locals) (hce : ce ≤ R.cells ∧ sl ≤ R.slots) (hcat : (st1.map fun v => v.category).sum ≤ 8) (hd : decode cc pc = .ok (.invokevirtual idx, 3)) (kk : ∀ (r : Int32) (u : Mem), Q r u → V p l e R s m args below meth c nL ad cy D A H0 ce sl Qs u wm wl0 (pc + 3) ls (.int r :: st1)) : V p l e R s m args below meth c nL ad cy D A H0 ce sl Qs w wm wl0 pc ls (.int a1 :: .ref (ad k) :: st1) := V_callVI_c X mf_4_isFull hL (rfl : vwCl[4]? = some (RX4, TX4, 8)) (by decide) (hk).1 (Nat.lt_of_lt_of_le (hk).2.1 (CX_nn X)) (c_4_isFull X.2.2.2.2.2.2.2.1 hk h) (As := [.int a1]) rfl ⟨rfl, rfl⟩ hR hce st1 rfl hcat hd kk
set_option maxRecDepth 20000 in
theorem v_3_takes_b46 (X : CXq p s m args meth c cX3_takes 3 yX3_takes.cls ad cy D (AW ad) s.heap) (hr : meth.sig.returnType = (some .boolean)) {Q : Int32 → Mem → Prop} : ∀ (s1 : Int32) (w : Mem), wp_3_takes_b46 Q s1 w → V p l e (RM 0) s m args below meth c 3 ad cy D (AW ad) s.heap 0 0 (MQ below (va_Qi Q (BC ad cy D wm wl0) (AW ad)) args s 0 0 (AW ad)) w wm wl0 46 [(0, .ref (ad 7))] [.int s1, .ref (ad 7)] := by
  intro s1 w h
  unfold wp_3_takes_b46 at h
  obtain ⟨w1, ew1⟩ : ∃ y : Mem, y = st w 7 5 s1 := ⟨_, rfl⟩
  have h := h w1 ew1
  refine U_3_26 X rfl rfl dX3_takes_46 ew1 ?_
  refine V_aload_n X (i := 0) 0 dX3_takes_49 rfl rfl ?_
  refine V_aload_n X (i := 0) 0 dX3_takes_50 rfl rfl ?_
  refine G_3_15 X dX3_takes_51 ?_
  refine G_3_196 X dX3_takes_54 ?_
  refine V_aload_n X (i := 0) 0 dX3_takes_57 rfl rfl ?_
  refine G_3_19 X dX3_takes_58 ?_
  obtain ⟨g2, h⟩ := h
  refine V_iald_c X (rfl : SLq 5 = 401) (by decide) (rfl : SK 5 = 14) g2 dX3_takes_61 ?_
  obtain ⟨w3, ew3⟩ : ∃ y : Mem, y = st w1 7 6 (w1 5 (ix (w1 7 3))) := ⟨_, rfl⟩
  have h := h w3 ew3
  refine U_3_29 X rfl rfl dX3_takes_62 ew3 ?_
  refine V_iconst X (v := (0 : Int32)) dX3_takes_65 (by decide) ?_
  exact V_zret_c X hr dX3_takes_66 rfl h
set_option maxRecDepth 20000 in
theorem v_3_takes_b36 (X : CXq p s m args meth c cX3_takes 3 yX3_takes.cls ad cy D (AW ad) s.heap) (hr : meth.sig.returnType = (some .boolean)) {Q : Int32 → Mem → Prop} : ∀ (l2 : Int32) (w : Mem), wp_3_takes_b36 Q l2 w → V p l e (RM 0) s m args below meth c 3 ad cy D (AW ad) s.heap 0 0 (MQ below (va_Qi Q (BC ad cy D wm wl0) (AW ad)) args s 0 0 (AW ad)) w wm wl0 36 [(0, .ref (ad 7)), (2, .int l2)] [] := by
  intro l2 w h
  unfold wp_3_takes_b36 at h
  refine V_aload_n X (i := 0) 0 dX3_takes_36 rfl rfl ?_
  refine V_iload_n X (i := 2) 1 dX3_takes_37 rfl rfl ?_
  obtain ⟨ht, hf⟩ := h
  refine V_if_eq X (tgt := 45) dX3_takes_38 (by decide) (fun c => ?_) (fun c => ?_)
  · have h := ht c
    refine V_iconst X (v := (1 : Int32)) dX3_takes_45 (by decide) ?_
    refine V_sub X (ls1 := [(0, .ref (ad 7))]) [0] rfl ?_
    exact v_3_takes_b46 X hr _ _ h
  · have h := hf c
    refine V_iconst X (v := (2 : Int32)) dX3_takes_41 (by decide) ?_
    refine V_goto X (tgt := 46) dX3_takes_42 (by decide) ?_
    refine V_sub X (ls1 := [(0, .ref (ad 7))]) [0] rfl ?_
    exact v_3_takes_b46 X hr _ _ h
set_option maxRecDepth 20000 in
theorem v_3_takes_b21 (X : CXq p s m args meth c cX3_takes 3 yX3_takes.cls ad cy D (AW ad) s.heap) (hr : meth.sig.returnType = (some .boolean)) {Q : Int32 → Mem → Prop} : ∀ (s0 : Int32) (w : Mem), wp_3_takes_b21 Q s0 w → V p l e (RM 0) s m args below meth c 3 ad cy D (AW ad) s.heap 0 0 (MQ below (va_Qi Q (BC ad cy D wm wl0) (AW ad)) args s 0 0 (AW ad)) w wm wl0 21 [(0, .ref (ad 7))] [.int s0] := by
  intro s0 w h
  unfold wp_3_takes_b21 at h
  refine V_istore_n X dX3_takes_21 rfl (by decide) rfl (ls1 := [(2, .int s0), (0, .ref (ad 7))]) rfl ?_
  refine V_iload_n X (i := 2) 0 dX3_takes_22 rfl rfl ?_
  obtain ⟨ht, hf⟩ := h
  refine V_if_eq X (tgt := 36) dX3_takes_23 (by decide) (fun c => ?_) (fun c => ?_)
  · have h := ht c
    refine V_sub X (ls1 := [(0, .ref (ad 7)), (2, .int s0)]) [1, 0] rfl ?_
    exact v_3_takes_b36 X hr _ _ h
  · have h := hf c
    refine V_aload_n X (i := 0) 1 dX3_takes_26 rfl rfl ?_
    refine G_3_19 X dX3_takes_27 ?_
    refine V_sipush X (v := (400 : Int32)) dX3_takes_30 (by decide) ?_
    obtain ⟨ht, hf⟩ := h
    refine V_icmp_lt X (tgt := 67) dX3_takes_33 (by decide) (fun c => ?_) (fun c => ?_)
    · have h := ht c
      refine V_aload_n X (i := 0) 1 dX3_takes_67 rfl rfl ?_
      refine V_dup X dX3_takes_68 rfl ?_
      refine G_3_19 X dX3_takes_69 ?_
      refine V_iconst X (v := (1 : Int32)) dX3_takes_72 (by decide) ?_
      refine V_iadd X dX3_takes_73 ?_
      obtain ⟨w1, ew1⟩ : ∃ y : Mem, y = st w 7 3 ((w 7 3) + (1 : Int32)) := ⟨_, rfl⟩
      have h := h w1 ew1
      refine U_3_19 X rfl rfl dX3_takes_74 ew1 ?_
      refine V_iconst X (v := (1 : Int32)) dX3_takes_77 (by decide) ?_
      exact V_zret_c X hr dX3_takes_78 rfl h
    · have h := hf c
      refine V_sub X (ls1 := [(0, .ref (ad 7)), (2, .int s0)]) [1, 0] rfl ?_
      exact v_3_takes_b36 X hr _ _ h
set_option maxRecDepth 20000 in
theorem v_3_takes {a1 : Int32} (X : CXq p s m args meth c cX3_takes 3 yX3_takes.cls ad cy D (AW ad) s.heap) (hr : meth.sig.returnType = (some .boolean)) {w : Mem} {Q : Int32 → Mem → Prop} (h : wp_3_takes a1 w Q) : V p l e (RM 0) s m args below meth c 3 ad cy D (AW ad) s.heap 0 0 (MQ below (va_Qi Q (BC ad cy D wm wl0) (AW ad)) args s 0 0 (AW ad)) w wm wl0 0 [(0, .ref (ad 7)), (1, .int a1)] [] := by
  unfold wp_3_takes at h
  refine V_aload_n X (i := 0) 0 dX3_takes_0 rfl rfl ?_
  refine G_3_15 X dX3_takes_1 ?_
  refine G_3_45 X dX3_takes_4 ?_
  refine V_aload_n X (i := 0) 0 dX3_takes_7 rfl rfl ?_
  refine G_3_19 X dX3_takes_8 ?_
  obtain ⟨g1, h⟩ := h
  refine V_iald_c X (rfl : SLq 4 = 401) (by decide) (rfl : SK 4 = 14) g1 dX3_takes_11 ?_
  refine V_iload_n X (i := 1) 1 dX3_takes_12 rfl rfl ?_
  obtain ⟨ht, hf⟩ := h
  refine V_icmp_ne X (tgt := 20) dX3_takes_13 (by decide) (fun c => ?_) (fun c => ?_)
  · have h := ht c
    refine V_iconst X (v := (0 : Int32)) dX3_takes_20 (by decide) ?_
    refine V_sub X (ls1 := [(0, .ref (ad 7))]) [0] rfl ?_
    exact v_3_takes_b21 X hr _ _ h
  · have h := hf c
    refine V_iconst X (v := (1 : Int32)) dX3_takes_16 (by decide) ?_
    refine V_goto X (tgt := 21) dX3_takes_17 (by decide) ?_
    refine V_sub X (ls1 := [(0, .ref (ad 7))]) [0] rfl ?_
    exact v_3_takes_b21 X hr _ _ h
theorem c_3_takes {a1 : Int32} (hinj : INJ ad) {w : Mem} {Q : Int32 → Mem → Prop} (h : wp_3_takes a1 w Q) : Met l yX3_takes (TBq yX3_takes cX3_takes 3 (some .boolean)) (RM 0) (va_Pc [.ref (ad 7), .int a1] (PB ad cy D (cmb w wm) wl0)) (va_Qi Q (BC ad cy D wm wl0) (AW ad)) 0 0 (AW ad) := M_enter (by decide) (Nat.le_of_ble_eq_true rfl) hinj (fun p e s m args below meth c X hr => v_3_takes X hr h)
theorem mf_3_takes : MFV yX3_takes cX3_takes 3 (some .boolean) yX3_takes.cls 1 := ⟨q_705, q_704, qs_8, q_4, by decide⟩
theorem K_3_takes {own : String} {idx : Nat} {a1 : Int32} (X : CXq p s m args meth c cc nL own ad cy D A H0) (hL : LK own idx yX3_takes) {w : Mem} {Q : Int32 → Mem → Prop} (h : wp_3_takes a1 w Q) (hR : (RM 0).frames + 1 ≤ R.frames ∧ 8 + (3 + 11) + (RM 0).locals ≤ R.locals) (hce : ce ≤ R.cells ∧ sl ≤ R.slots) (hcat : (st1.map fun v => v.category).sum ≤ 8) (hd : decode cc pc = .ok (.invokevirtual idx, 3)) (kk : ∀ (r : Int32) (u : Mem), Q r u → V p l e R s m args below meth c nL ad cy D A H0 ce sl Qs u wm wl0 (pc + 3) ls (.int r :: st1)) : V p l e R s m args below meth c nL ad cy D A H0 ce sl Qs w wm wl0 pc ls (.int a1 :: .ref (ad 7) :: st1) := V_callVI_c X mf_3_takes hL (rfl : vwCl[3]? = some (RX3, TX3, 9)) (by decide) (rfl : SK 7 = 3) (Nat.lt_of_lt_of_le (by decide : 7 < 150) (CX_nn X)) (c_3_takes X.2.2.2.2.2.2.2.1 h) (As := [.int a1]) rfl ⟨rfl, rfl⟩ hR hce st1 rfl hcat hd kk
set_option maxRecDepth 20000 in
theorem v_11_within_b14 (X : CXq p s m args meth c cX11_within 3 yX11_within.cls ad cy D (AW ad) s.heap) (hr : meth.sig.returnType = (some .boolean)) {Q : Int32 → Mem → Prop} : ∀ (w : Mem), wp_11_within_b14 Q w → V p l e (RM 0) s m args below meth c 3 ad cy D (AW ad) s.heap 0 0 (MQ below (va_Qi Q (BC ad cy D wm wl0) (AW ad)) args s 0 0 (AW ad)) w wm wl0 14 [] [] := by
  intro w h
  unfold wp_11_within_b14 at h
  refine V_iconst X (v := (0 : Int32)) dX11_within_14 (by decide) ?_
  exact V_zret_c X hr dX11_within_15 rfl h
set_option maxRecDepth 20000 in
theorem v_11_within {a1 : Int32} {a2 : Int32} {a3 : Int32} (X : CXq p s m args meth c cX11_within 3 yX11_within.cls ad cy D (AW ad) s.heap) (hr : meth.sig.returnType = (some .boolean)) {w : Mem} {Q : Int32 → Mem → Prop} (h : wp_11_within a1 a2 a3 w Q) : V p l e (RM 0) s m args below meth c 3 ad cy D (AW ad) s.heap 0 0 (MQ below (va_Qi Q (BC ad cy D wm wl0) (AW ad)) args s 0 0 (AW ad)) w wm wl0 0 [(0, .int a1), (1, .int a2), (2, .int a3)] [] := by
  unfold wp_11_within at h
  refine V_iload_n X (i := 0) 0 dX11_within_0 rfl rfl ?_
  refine V_iload_n X (i := 1) 1 dX11_within_1 rfl rfl ?_
  obtain ⟨ht, hf⟩ := h
  refine V_icmp_lt X (tgt := 14) dX11_within_2 (by decide) (fun c => ?_) (fun c => ?_)
  · have h := ht c
    refine V_sub X (ls1 := []) [] rfl ?_
    exact v_11_within_b14 X hr _ h
  · have h := hf c
    refine V_iload_n X (i := 0) 0 dX11_within_5 rfl rfl ?_
    refine V_iload_n X (i := 2) 2 dX11_within_6 rfl rfl ?_
    obtain ⟨ht, hf⟩ := h
    refine V_icmp_gt X (tgt := 14) dX11_within_7 (by decide) (fun c => ?_) (fun c => ?_)
    · have h := ht c
      refine V_sub X (ls1 := []) [] rfl ?_
      exact v_11_within_b14 X hr _ h
    · have h := hf c
      refine V_iconst X (v := (1 : Int32)) dX11_within_10 (by decide) ?_
      refine V_goto X (tgt := 15) dX11_within_11 (by decide) ?_
      exact V_zret_c X hr dX11_within_15 rfl h
theorem c_11_within {a1 : Int32} {a2 : Int32} {a3 : Int32} (hinj : INJ ad) {w : Mem} {Q : Int32 → Mem → Prop} (h : wp_11_within a1 a2 a3 w Q) : Met l yX11_within (TBq yX11_within cX11_within 3 (some .boolean)) (RM 0) (va_Pc [.int a1, .int a2, .int a3] (PB ad cy D (cmb w wm) wl0)) (va_Qi Q (BC ad cy D wm wl0) (AW ad)) 0 0 (AW ad) := M_enter (by decide) (Nat.le_of_ble_eq_true rfl) hinj (fun p e s m args below meth c X hr => v_11_within X hr h)
theorem mf_11_within : MFS yX11_within cX11_within 3 (some .boolean) 3 := ⟨q_534, q_533, q_1, by decide⟩
theorem K_11_within {own : String} {idx : Nat} {a1 : Int32} {a2 : Int32} {a3 : Int32} (X : CXq p s m args meth c cc nL own ad cy D A H0) (hL : LK own idx yX11_within) {w : Mem} {Q : Int32 → Mem → Prop} (h : wp_11_within a1 a2 a3 w Q) (hR : (RM 0).frames + 1 ≤ R.frames ∧ 8 + (3 + 11) + (RM 0).locals ≤ R.locals) (hce : ce ≤ R.cells ∧ sl ≤ R.slots) (hcat : (st1.map fun v => v.category).sum ≤ 8) (hd : decode cc pc = .ok (.invokestatic idx, 3)) (kk : ∀ (r : Int32) (u : Mem), Q r u → V p l e R s m args below meth c nL ad cy D A H0 ce sl Qs u wm wl0 (pc + 3) ls (.int r :: st1)) : V p l e R s m args below meth c nL ad cy D A H0 ce sl Qs w wm wl0 pc ls (.int a3 :: .int a2 :: .int a1 :: st1) := V_callSI_c X mf_11_within hL (c_11_within X.2.2.2.2.2.2.2.1 h) (As := [.int a1, .int a2, .int a3]) rfl ⟨rfl, rfl⟩ hR hce st1 rfl hcat hd kk
set_option maxRecDepth 20000 in
theorem v_3_notes {a1 : Int32} {a2 : Int32} (X : CXq p s m args meth c cX3_notes 3 yX3_notes.cls ad cy D (AW ad) s.heap) (hr : meth.sig.returnType = none) {w : Mem} {Q : Mem → Prop} (h : wp_3_notes a1 a2 w Q) : V p l e (RM 0) s m args below meth c 3 ad cy D (AW ad) s.heap 0 0 (MQ below (va_Qv Q (BC ad cy D wm wl0) (AW ad)) args s 0 0 (AW ad)) w wm wl0 0 [(0, .ref (ad 7)), (1, .int a1), (2, .int a2)] [] := by
  unfold wp_3_notes at h
  refine V_aload_n X (i := 0) 0 dX3_notes_0 rfl rfl ?_
  refine G_3_32 X dX3_notes_1 ?_
  obtain ⟨ht, hf⟩ := h
  refine V_if_ne X (tgt := 25) dX3_notes_4 (by decide) (fun c => ?_) (fun c => ?_)
  · have h := ht c
    exact V_vret_c X hr dX3_notes_25 h
  · have h := hf c
    refine V_aload_n X (i := 0) 0 dX3_notes_7 rfl rfl ?_
    refine V_iload_n X (i := 1) 1 dX3_notes_8 rfl rfl ?_
    obtain ⟨w1, ew1⟩ : ∃ y : Mem, y = st w 7 7 a1 := ⟨_, rfl⟩
    have h := h w1 ew1
    refine U_3_32 X rfl rfl dX3_notes_9 ew1 ?_
    refine V_aload_n X (i := 0) 0 dX3_notes_12 rfl rfl ?_
    refine V_aload_n X (i := 0) 0 dX3_notes_13 rfl rfl ?_
    refine G_3_15 X dX3_notes_14 ?_
    refine G_3_196 X dX3_notes_17 ?_
    refine V_iload_n X (i := 2) 2 dX3_notes_20 rfl rfl ?_
    obtain ⟨g2, h⟩ := h
    refine V_iald_c X (rfl : SLq 5 = 401) (by decide) (rfl : SK 5 = 14) g2 dX3_notes_21 ?_
    obtain ⟨w3, ew3⟩ : ∃ y : Mem, y = st w1 7 8 (w1 5 (ix a2)) := ⟨_, rfl⟩
    have h := h w3 ew3
    refine U_3_35 X rfl rfl dX3_notes_22 ew3 ?_
    exact V_vret_c X hr dX3_notes_25 h
theorem c_3_notes {a1 : Int32} {a2 : Int32} (hinj : INJ ad) {w : Mem} {Q : Mem → Prop} (h : wp_3_notes a1 a2 w Q) : Met l yX3_notes (TBq yX3_notes cX3_notes 3 none) (RM 0) (va_Pc [.ref (ad 7), .int a1, .int a2] (PB ad cy D (cmb w wm) wl0)) (va_Qv Q (BC ad cy D wm wl0) (AW ad)) 0 0 (AW ad) := M_enter (by decide) (Nat.le_of_ble_eq_true rfl) hinj (fun p e s m args below meth c X hr => v_3_notes X hr h)
theorem mf_3_notes : MFV yX3_notes cX3_notes 3 none yX3_notes.cls 2 := ⟨q_718, q_717, qs_11, q_4, by decide⟩
theorem K_3_notes {own : String} {idx : Nat} {a1 : Int32} {a2 : Int32} (X : CXq p s m args meth c cc nL own ad cy D A H0) (hL : LK own idx yX3_notes) {w : Mem} {Q : Mem → Prop} (h : wp_3_notes a1 a2 w Q) (hR : (RM 0).frames + 1 ≤ R.frames ∧ 8 + (3 + 11) + (RM 0).locals ≤ R.locals) (hce : ce ≤ R.cells ∧ sl ≤ R.slots) (hcat : (st1.map fun v => v.category).sum ≤ 8) (hd : decode cc pc = .ok (.invokevirtual idx, 3)) (kk : ∀ (u : Mem), Q u → V p l e R s m args below meth c nL ad cy D A H0 ce sl Qs u wm wl0 (pc + 3) ls st1) : V p l e R s m args below meth c nL ad cy D A H0 ce sl Qs w wm wl0 pc ls (.int a2 :: .int a1 :: .ref (ad 7) :: st1) := V_callVV_c X mf_3_notes hL (rfl : vwCl[3]? = some (RX3, TX3, 9)) (by decide) (rfl : SK 7 = 3) (Nat.lt_of_lt_of_le (by decide : 7 < 150) (CX_nn X)) (c_3_notes X.2.2.2.2.2.2.2.1 h) (As := [.int a1, .int a2]) rfl ⟨rfl, rfl⟩ hR hce st1 rfl hcat hd kk
set_option maxRecDepth 20000 in
theorem v_3_readInt {a1 : Int32} {a2 : Int32} (X : CXq p s m args meth c cX3_readInt 4 yX3_readInt.cls ad cy D (AW ad) s.heap) (hr : meth.sig.returnType = (some .boolean)) {w : Mem} {Q : Int32 → Mem → Prop} (h : wp_3_readInt a1 a2 w Q) : V p l e (RM 1) s m args below meth c 4 ad cy D (AW ad) s.heap 0 0 (MQ below (va_Qi Q (BC ad cy D wm wl0) (AW ad)) args s 0 0 (AW ad)) w wm wl0 0 [(0, .ref (ad 7)), (1, .int a1), (2, .int a2)] [] := by
  unfold wp_3_readInt at h
  refine V_aload_n X (i := 0) 0 dX3_readInt_0 rfl rfl ?_
  refine G_3_19 X dX3_readInt_1 ?_
  obtain ⟨x1, ex1⟩ : ∃ y : Int32, y = (w 7 3) := ⟨_, rfl⟩
  have h := h x1 ex1
  refine V_istore_n X dX3_readInt_4 rfl (by decide) ex1 (ls1 := [(3, .int x1), (0, .ref (ad 7)), (1, .int a1), (2, .int a2)]) rfl ?_
  refine V_aload_n X (i := 0) 1 dX3_readInt_5 rfl rfl ?_
  refine V_iconst X (v := (3 : Int32)) dX3_readInt_6 (by decide) ?_
  refine K_3_takes X (Or.inl q_702) h ⟨Nat.le_of_ble_eq_true rfl, Nat.le_of_ble_eq_true rfl⟩ ⟨Nat.zero_le _, Nat.zero_le _⟩ (st1 := []) (Nat.le_of_ble_eq_true rfl) dX3_readInt_7 (fun r3 w2 h => ?_)
  obtain ⟨ht, hf⟩ := h
  refine V_if_ne X (tgt := 15) dX3_readInt_10 (by decide) (fun c => ?_) (fun c => ?_)
  · have h := ht c
    refine V_aload_n X (i := 0) 1 dX3_readInt_15 rfl rfl ?_
    refine V_aload_n X (i := 0) 1 dX3_readInt_16 rfl rfl ?_
    refine G_3_15 X dX3_readInt_17 ?_
    refine G_3_170 X dX3_readInt_20 ?_
    refine V_iload_n X (i := 3) 0 dX3_readInt_23 rfl rfl ?_
    obtain ⟨g4, h⟩ := h
    refine V_iald_c X (rfl : SLq 6 = 401) (by decide) (rfl : SK 6 = 14) g4 dX3_readInt_24 ?_
    obtain ⟨w5, ew5⟩ : ∃ y : Mem, y = st w2 7 4 (w2 6 (ix x1)) := ⟨_, rfl⟩
    have h := h w5 ew5
    refine U_3_116 X rfl rfl dX3_readInt_25 ew5 ?_
    refine V_aload_n X (i := 0) 1 dX3_readInt_28 rfl rfl ?_
    refine G_3_116 X dX3_readInt_29 ?_
    refine V_iload_n X (i := 1) 2 dX3_readInt_32 rfl rfl ?_
    refine V_iload_n X (i := 2) 3 dX3_readInt_33 rfl rfl ?_
    refine K_11_within X (Or.inr ⟨_, q_714⟩) h ⟨Nat.le_of_ble_eq_true rfl, Nat.le_of_ble_eq_true rfl⟩ ⟨Nat.zero_le _, Nat.zero_le _⟩ (st1 := []) (Nat.le_of_ble_eq_true rfl) dX3_readInt_34 (fun r7 w6 h => ?_)
    obtain ⟨ht, hf⟩ := h
    refine V_if_ne X (tgt := 46) dX3_readInt_37 (by decide) (fun c => ?_) (fun c => ?_)
    · have h := ht c
      refine V_iconst X (v := (1 : Int32)) dX3_readInt_46 (by decide) ?_
      exact V_zret_c X hr dX3_readInt_47 rfl h
    · have h := hf c
      refine V_aload_n X (i := 0) 1 dX3_readInt_40 rfl rfl ?_
      refine V_iconst X (v := (5 : Int32)) dX3_readInt_41 (by decide) ?_
      refine V_iload_n X (i := 3) 0 dX3_readInt_42 rfl rfl ?_
      refine K_3_notes X (Or.inl q_715) h ⟨Nat.le_of_ble_eq_true rfl, Nat.le_of_ble_eq_true rfl⟩ ⟨Nat.zero_le _, Nat.zero_le _⟩ (st1 := []) (Nat.le_of_ble_eq_true rfl) dX3_readInt_43 (fun w8 h => ?_)
      refine V_iconst X (v := (1 : Int32)) dX3_readInt_46 (by decide) ?_
      exact V_zret_c X hr dX3_readInt_47 rfl h
  · have h := hf c
    refine V_iconst X (v := (0 : Int32)) dX3_readInt_13 (by decide) ?_
    exact V_zret_c X hr dX3_readInt_14 rfl h
theorem c_3_readInt {a1 : Int32} {a2 : Int32} (hinj : INJ ad) {w : Mem} {Q : Int32 → Mem → Prop} (h : wp_3_readInt a1 a2 w Q) : Met l yX3_readInt (TBq yX3_readInt cX3_readInt 4 (some .boolean)) (RM 1) (va_Pc [.ref (ad 7), .int a1, .int a2] (PB ad cy D (cmb w wm) wl0)) (va_Qi Q (BC ad cy D wm wl0) (AW ad)) 0 0 (AW ad) := M_enter (by decide) (Nat.le_of_ble_eq_true rfl) hinj (fun p e s m args below meth c X hr => v_3_readInt X hr h)
theorem mf_3_readInt : MFV yX3_readInt cX3_readInt 4 (some .boolean) yX3_readInt.cls 2 := ⟨q_713, q_712, qs_10, q_4, by decide⟩
theorem K_3_readInt {own : String} {idx : Nat} {a1 : Int32} {a2 : Int32} (X : CXq p s m args meth c cc nL own ad cy D A H0) (hL : LK own idx yX3_readInt) {w : Mem} {Q : Int32 → Mem → Prop} (h : wp_3_readInt a1 a2 w Q) (hR : (RM 1).frames + 1 ≤ R.frames ∧ 8 + (4 + 11) + (RM 1).locals ≤ R.locals) (hce : ce ≤ R.cells ∧ sl ≤ R.slots) (hcat : (st1.map fun v => v.category).sum ≤ 8) (hd : decode cc pc = .ok (.invokevirtual idx, 3)) (kk : ∀ (r : Int32) (u : Mem), Q r u → V p l e R s m args below meth c nL ad cy D A H0 ce sl Qs u wm wl0 (pc + 3) ls (.int r :: st1)) : V p l e R s m args below meth c nL ad cy D A H0 ce sl Qs w wm wl0 pc ls (.int a2 :: .int a1 :: .ref (ad 7) :: st1) := V_callVI_c X mf_3_readInt hL (rfl : vwCl[3]? = some (RX3, TX3, 9)) (by decide) (rfl : SK 7 = 3) (Nat.lt_of_lt_of_le (by decide : 7 < 150) (CX_nn X)) (c_3_readInt X.2.2.2.2.2.2.2.1 h) (As := [.int a1, .int a2]) rfl ⟨rfl, rfl⟩ hR hce st1 rfl hcat hd kk
set_option maxRecDepth 20000 in
theorem v_3_readHill_b67 (X : CXq p s m args meth c cX3_readHill 3 yX3_readHill.cls ad cy D (AW ad) s.heap) (hr : meth.sig.returnType = (some .boolean)) {k1 : Nat} (hk1 : isText k1) {Q : Int32 → Mem → Prop} : ∀ (s0 : Int32) (w : Mem), wp_3_readHill_b67 k1 Q s0 w → V p l e (RM 2) s m args below meth c 3 ad cy D (AW ad) s.heap 0 0 (MQ below (va_Qi Q (BC ad cy D wm wl0) (AW ad)) args s 0 0 (AW ad)) w wm wl0 67 [(0, .ref (ad 7)), (1, .ref (ad k1))] [.int s0] := by
  intro s0 w h
  unfold wp_3_readHill_b67 at h
  refine V_istore_n X dX3_readHill_67 rfl (by decide) rfl (ls1 := [(2, .int s0), (0, .ref (ad 7)), (1, .ref (ad k1))]) rfl ?_
  refine V_aload_n X (i := 1) 2 dX3_readHill_68 rfl rfl ?_
  refine V_aload_n X (i := 0) 1 dX3_readHill_69 rfl rfl ?_
  refine G_3_116 X dX3_readHill_70 ?_
  obtain ⟨w1, ew1⟩ : ∃ y : Mem, y = st w k1 9 (w 7 4) := ⟨_, rfl⟩
  have h := h w1 ew1
  refine U_3_125 X (hk1).1 (hk1).2.1 (Text_r9 hk1) rfl rfl dX3_readHill_73 ew1 ?_
  refine V_iload_n X (i := 2) 0 dX3_readHill_76 rfl rfl ?_
  exact V_zret_c X hr dX3_readHill_77 (bo_z h.1) h.2
set_option maxRecDepth 20000 in
theorem v_3_readHill_b66 (X : CXq p s m args meth c cX3_readHill 3 yX3_readHill.cls ad cy D (AW ad) s.heap) (hr : meth.sig.returnType = (some .boolean)) {k1 : Nat} (hk1 : isText k1) {Q : Int32 → Mem → Prop} : ∀ (w : Mem), wp_3_readHill_b66 k1 Q w → V p l e (RM 2) s m args below meth c 3 ad cy D (AW ad) s.heap 0 0 (MQ below (va_Qi Q (BC ad cy D wm wl0) (AW ad)) args s 0 0 (AW ad)) w wm wl0 66 [(0, .ref (ad 7)), (1, .ref (ad k1))] [] := by
  intro w h
  unfold wp_3_readHill_b66 at h
  refine V_iconst X (v := (0 : Int32)) dX3_readHill_66 (by decide) ?_
  refine V_sub X (ls1 := [(0, .ref (ad 7)), (1, .ref (ad k1))]) [0, 1] rfl ?_
  exact v_3_readHill_b67 X hr hk1 _ _ h
set_option maxRecDepth 20000 in
theorem v_3_readHill_b39 (X : CXq p s m args meth c cX3_readHill 3 yX3_readHill.cls ad cy D (AW ad) s.heap) (hr : meth.sig.returnType = (some .boolean)) {k1 : Nat} (hk1 : isText k1) {Q : Int32 → Mem → Prop} : ∀ (s0 : Int32) (w : Mem), wp_3_readHill_b39 k1 Q s0 w → V p l e (RM 2) s m args below meth c 3 ad cy D (AW ad) s.heap 0 0 (MQ below (va_Qi Q (BC ad cy D wm wl0) (AW ad)) args s 0 0 (AW ad)) w wm wl0 39 [(0, .ref (ad 7)), (1, .ref (ad k1))] [.int s0] := by
  intro s0 w h
  unfold wp_3_readHill_b39 at h
  refine V_istore_n X dX3_readHill_39 rfl (by decide) rfl (ls1 := [(2, .int s0), (0, .ref (ad 7)), (1, .ref (ad k1))]) rfl ?_
  refine V_aload_n X (i := 1) 2 dX3_readHill_40 rfl rfl ?_
  refine V_aload_n X (i := 0) 1 dX3_readHill_41 rfl rfl ?_
  refine G_3_116 X dX3_readHill_42 ?_
  obtain ⟨w1, ew1⟩ : ∃ y : Mem, y = st w k1 8 (w 7 4) := ⟨_, rfl⟩
  have h := h w1 ew1
  refine U_3_122 X (hk1).1 (hk1).2.1 (Text_r8 hk1) rfl rfl dX3_readHill_45 ew1 ?_
  refine V_iload_n X (i := 2) 0 dX3_readHill_48 rfl rfl ?_
  obtain ⟨ht, hf⟩ := h
  refine V_if_eq X (tgt := 66) dX3_readHill_49 (by decide) (fun c => ?_) (fun c => ?_)
  · have h := ht c
    refine V_sub X (ls1 := [(0, .ref (ad 7)), (1, .ref (ad k1))]) [1, 2] rfl ?_
    exact v_3_readHill_b66 X hr hk1 _ h
  · have h := hf c
    refine V_aload_n X (i := 0) 1 dX3_readHill_52 rfl rfl ?_
    refine V_iconst X (v := (0 : Int32)) dX3_readHill_53 (by decide) ?_
    refine V_bipush X (v := (99 : Int32)) dX3_readHill_54 (by decide) ?_
    refine K_3_readInt X (Or.inl q_710) h ⟨Nat.le_of_ble_eq_true rfl, Nat.le_of_ble_eq_true rfl⟩ ⟨Nat.zero_le _, Nat.zero_le _⟩ (st1 := []) (Nat.le_of_ble_eq_true rfl) dX3_readHill_56 (fun r3 w2 h => ?_)
    obtain ⟨ht, hf⟩ := h
    refine V_if_eq X (tgt := 66) dX3_readHill_59 (by decide) (fun c => ?_) (fun c => ?_)
    · have h := ht c
      refine V_sub X (ls1 := [(0, .ref (ad 7)), (1, .ref (ad k1))]) [1, 2] rfl ?_
      exact v_3_readHill_b66 X hr hk1 _ h
    · have h := hf c
      refine V_iconst X (v := (1 : Int32)) dX3_readHill_62 (by decide) ?_
      refine V_goto X (tgt := 67) dX3_readHill_63 (by decide) ?_
      refine V_sub X (ls1 := [(0, .ref (ad 7)), (1, .ref (ad k1))]) [1, 2] rfl ?_
      exact v_3_readHill_b67 X hr hk1 _ _ h
set_option maxRecDepth 20000 in
theorem v_3_readHill_b38 (X : CXq p s m args meth c cX3_readHill 3 yX3_readHill.cls ad cy D (AW ad) s.heap) (hr : meth.sig.returnType = (some .boolean)) {k1 : Nat} (hk1 : isText k1) {Q : Int32 → Mem → Prop} : ∀ (w : Mem), wp_3_readHill_b38 k1 Q w → V p l e (RM 2) s m args below meth c 3 ad cy D (AW ad) s.heap 0 0 (MQ below (va_Qi Q (BC ad cy D wm wl0) (AW ad)) args s 0 0 (AW ad)) w wm wl0 38 [(0, .ref (ad 7)), (1, .ref (ad k1))] [] := by
  intro w h
  unfold wp_3_readHill_b38 at h
  refine V_iconst X (v := (0 : Int32)) dX3_readHill_38 (by decide) ?_
  refine V_sub X (ls1 := [(0, .ref (ad 7)), (1, .ref (ad k1))]) [0, 1] rfl ?_
  exact v_3_readHill_b39 X hr hk1 _ _ h
set_option maxRecDepth 20000 in
theorem v_3_readHill {k1 : Nat} (X : CXq p s m args meth c cX3_readHill 3 yX3_readHill.cls ad cy D (AW ad) s.heap) (hr : meth.sig.returnType = (some .boolean)) (hk1 : isText k1) {w : Mem} {Q : Int32 → Mem → Prop} (h : wp_3_readHill k1 w Q) : V p l e (RM 2) s m args below meth c 3 ad cy D (AW ad) s.heap 0 0 (MQ below (va_Qi Q (BC ad cy D wm wl0) (AW ad)) args s 0 0 (AW ad)) w wm wl0 0 [(0, .ref (ad 7)), (1, .ref (ad k1))] [] := by
  unfold wp_3_readHill at h
  refine V_aload_n X (i := 0) 0 dX3_readHill_0 rfl rfl ?_
  refine V_bipush X (v := (100 : Int32)) dX3_readHill_1 (by decide) ?_
  refine V_sipush X (v := (2500 : Int32)) dX3_readHill_3 (by decide) ?_
  refine K_3_readInt X (Or.inl q_710) h ⟨Nat.le_of_ble_eq_true rfl, Nat.le_of_ble_eq_true rfl⟩ ⟨Nat.zero_le _, Nat.zero_le _⟩ (st1 := []) (Nat.le_of_ble_eq_true rfl) dX3_readHill_6 (fun r2 w1 h => ?_)
  refine V_istore_n X dX3_readHill_9 rfl (by decide) rfl (ls1 := [(2, .int r2), (0, .ref (ad 7)), (1, .ref (ad k1))]) rfl ?_
  refine V_aload_n X (i := 1) 2 dX3_readHill_10 rfl rfl ?_
  refine V_aload_n X (i := 0) 1 dX3_readHill_11 rfl rfl ?_
  refine G_3_116 X dX3_readHill_12 ?_
  obtain ⟨w3, ew3⟩ : ∃ y : Mem, y = st w1 k1 7 (w1 7 4) := ⟨_, rfl⟩
  have h := h w3 ew3
  refine U_3_119 X (hk1).1 (hk1).2.1 (Text_r7 hk1) rfl rfl dX3_readHill_15 ew3 ?_
  refine V_iload_n X (i := 2) 0 dX3_readHill_18 rfl rfl ?_
  obtain ⟨ht, hf⟩ := h
  refine V_if_eq X (tgt := 38) dX3_readHill_19 (by decide) (fun c => ?_) (fun c => ?_)
  · have h := ht c
    refine V_sub X (ls1 := [(0, .ref (ad 7)), (1, .ref (ad k1))]) [1, 2] rfl ?_
    exact v_3_readHill_b38 X hr hk1 _ h
  · have h := hf c
    refine V_aload_n X (i := 0) 1 dX3_readHill_22 rfl rfl ?_
    refine V_bipush X (v := (100 : Int32)) dX3_readHill_23 (by decide) ?_
    refine V_sipush X (v := (2500 : Int32)) dX3_readHill_25 (by decide) ?_
    refine K_3_readInt X (Or.inl q_710) h ⟨Nat.le_of_ble_eq_true rfl, Nat.le_of_ble_eq_true rfl⟩ ⟨Nat.zero_le _, Nat.zero_le _⟩ (st1 := []) (Nat.le_of_ble_eq_true rfl) dX3_readHill_28 (fun r5 w4 h => ?_)
    obtain ⟨ht, hf⟩ := h
    refine V_if_eq X (tgt := 38) dX3_readHill_31 (by decide) (fun c => ?_) (fun c => ?_)
    · have h := ht c
      refine V_sub X (ls1 := [(0, .ref (ad 7)), (1, .ref (ad k1))]) [1, 2] rfl ?_
      exact v_3_readHill_b38 X hr hk1 _ h
    · have h := hf c
      refine V_iconst X (v := (1 : Int32)) dX3_readHill_34 (by decide) ?_
      refine V_goto X (tgt := 39) dX3_readHill_35 (by decide) ?_
      refine V_sub X (ls1 := [(0, .ref (ad 7)), (1, .ref (ad k1))]) [1, 2] rfl ?_
      exact v_3_readHill_b39 X hr hk1 _ _ h
theorem c_3_readHill {k1 : Nat} (hinj : INJ ad) (hk1 : isText k1) {w : Mem} {Q : Int32 → Mem → Prop} (h : wp_3_readHill k1 w Q) : Met l yX3_readHill (TBq yX3_readHill cX3_readHill 3 (some .boolean)) (RM 2) (va_Pc [.ref (ad 7), .ref (ad k1)] (PB ad cy D (cmb w wm) wl0)) (va_Qi Q (BC ad cy D wm wl0) (AW ad)) 0 0 (AW ad) := M_enter (by decide) (Nat.le_of_ble_eq_true rfl) hinj (fun p e s m args below meth c X hr => v_3_readHill X hr hk1 h)
theorem mf_3_readHill : MFV yX3_readHill cX3_readHill 3 (some .boolean) yX3_readHill.cls 1 := ⟨q_709, q_708, qs_9, q_4, by decide⟩
theorem K_3_readHill {own : String} {idx : Nat} {k1 : Nat} (X : CXq p s m args meth c cc nL own ad cy D A H0) (hL : LK own idx yX3_readHill) (hk1 : isText k1) {w : Mem} {Q : Int32 → Mem → Prop} (h : wp_3_readHill k1 w Q) (hR : (RM 2).frames + 1 ≤ R.frames ∧ 8 + (3 + 11) + (RM 2).locals ≤ R.locals) (hce : ce ≤ R.cells ∧ sl ≤ R.slots) (hcat : (st1.map fun v => v.category).sum ≤ 8) (hd : decode cc pc = .ok (.invokevirtual idx, 3)) (kk : ∀ (r : Int32) (u : Mem), Q r u → V p l e R s m args below meth c nL ad cy D A H0 ce sl Qs u wm wl0 (pc + 3) ls (.int r :: st1)) : V p l e R s m args below meth c nL ad cy D A H0 ce sl Qs w wm wl0 pc ls (.ref (ad k1) :: .ref (ad 7) :: st1) := V_callVI_c X mf_3_readHill hL (rfl : vwCl[3]? = some (RX3, TX3, 9)) (by decide) (rfl : SK 7 = 3) (Nat.lt_of_lt_of_le (by decide : 7 < 150) (CX_nn X)) (c_3_readHill X.2.2.2.2.2.2.2.1 hk1 h) (As := [.ref (ad k1)]) rfl ⟨rfl, rfl⟩ hR hce st1 rfl hcat hd kk
theorem mf_3_readUnit : MFV yX3_readUnit cX3_readUnit 4 (some .boolean) yX3_readUnit.cls 2 := ⟨q_735, q_734, qs_15, q_4, by decide⟩
theorem mf_3_readProduct : MFV yX3_readProduct cX3_readProduct 6 (some .boolean) yX3_readProduct.cls 2 := ⟨q_731, q_730, qs_14, q_4, by decide⟩
theorem mf_3_readSumF : MFV yX3_readSum cX3_readSum 6 (some .boolean) yX3_readSum.cls 2 := ⟨q_727, q_726, qs_13, q_4, by decide⟩
theorem K_3_readSum_0 {own : String} {idx : Nat}  {k1 : Nat} {a2 : Int32} (X : CXq p s m args meth c cc nL own ad cy D A H0) (hL : LK own idx yX3_readSum) (hk1 : isLaw k1) {w : Mem} {Q : Int32 → Mem → Prop} (h : wp_3_readSum 0 k1 a2 w Q) (hR : (RM 2).frames + 1 ≤ R.frames ∧ 8 + (6 + 11) + (RM 2).locals ≤ R.locals) (hce : ce ≤ R.cells ∧ sl ≤ R.slots) (hcat : (st1.map fun v => v.category).sum ≤ 8) (hd : decode cc pc = .ok (.invokevirtual idx, 3)) (kk : ∀ (r : Int32) (u : Mem), Q r u → V p l e R s m args below meth c nL ad cy D A H0 ce sl Qs u wm wl0 (pc + 3) ls (.int r :: st1)) : V p l e R s m args below meth c nL ad cy D A H0 ce sl Qs w wm wl0 pc ls (.int a2 :: .ref (ad k1) :: .ref (ad 7) :: st1) := False.elim h
set_option maxRecDepth 20000 in
theorem v_3_readUnit_b127_q0 (X : CXq p s m args meth c cX3_readUnit 4 yX3_readUnit.cls ad cy D (AW ad) s.heap) (hr : meth.sig.returnType = (some .boolean))  {k1 : Nat} (hk1 : isLaw k1) {Q : Int32 → Mem → Prop} : ∀ (w : Mem), wp_3_readUnit_b127 (wp_3_readSum 0) k1 Q w → V p l e (RM 3) s m args below meth c 4 ad cy D (AW ad) s.heap 0 0 (MQ below (va_Qi Q (BC ad cy D wm wl0) (AW ad)) args s 0 0 (AW ad)) w wm wl0 127 [] [] := by
  intro w h
  unfold wp_3_readUnit_b127 at h
  refine V_iconst X (v := (0 : Int32)) dX3_readUnit_127 (by decide) ?_
  exact V_zret_c X hr dX3_readUnit_128 rfl h
set_option maxRecDepth 20000 in
theorem v_3_readUnit_q0  {k1 : Nat} {a2 : Int32} (X : CXq p s m args meth c cX3_readUnit 4 yX3_readUnit.cls ad cy D (AW ad) s.heap) (hr : meth.sig.returnType = (some .boolean)) (hk1 : isLaw k1) {w : Mem} {Q : Int32 → Mem → Prop} (h : wp_3_readUnit (wp_3_readSum 0) k1 a2 w Q) : V p l e (RM 3) s m args below meth c 4 ad cy D (AW ad) s.heap 0 0 (MQ below (va_Qi Q (BC ad cy D wm wl0) (AW ad)) args s 0 0 (AW ad)) w wm wl0 0 [(0, .ref (ad 7)), (1, .ref (ad k1)), (2, .int a2)] [] := by
  unfold wp_3_readUnit at h
  refine V_aload_n X (i := 0) 0 dX3_readUnit_0 rfl rfl ?_
  refine G_3_15 X dX3_readUnit_1 ?_
  refine G_3_45 X dX3_readUnit_4 ?_
  refine V_aload_n X (i := 0) 0 dX3_readUnit_7 rfl rfl ?_
  refine G_3_19 X dX3_readUnit_8 ?_
  obtain ⟨g1, h⟩ := h
  refine V_iald_c X (rfl : SLq 4 = 401) (by decide) (rfl : SK 4 = 14) g1 dX3_readUnit_11 ?_
  obtain ⟨x2, ex2⟩ : ∃ y : Int32, y = (w 4 (ix (w 7 3))) := ⟨_, rfl⟩
  have h := h x2 ex2
  refine V_istore_n X dX3_readUnit_12 rfl (by decide) ex2 (ls1 := [(3, .int x2), (0, .ref (ad 7)), (1, .ref (ad k1)), (2, .int a2)]) rfl ?_
  refine V_iload_n X (i := 3) 0 dX3_readUnit_13 rfl rfl ?_
  refine V_iconst X (v := (3 : Int32)) dX3_readUnit_14 (by decide) ?_
  obtain ⟨ht, hf⟩ := h
  refine V_icmp_ne X (tgt := 41) dX3_readUnit_15 (by decide) (fun c => ?_) (fun c => ?_)
  · have h := ht c
    refine V_iload_n X (i := 3) 0 dX3_readUnit_41 rfl rfl ?_
    refine V_sipush X (v := (146 : Int32)) dX3_readUnit_42 (by decide) ?_
    refine V_sipush X (v := (156 : Int32)) dX3_readUnit_45 (by decide) ?_
    refine K_11_within X (Or.inr ⟨_, q_714⟩) h ⟨Nat.le_of_ble_eq_true rfl, Nat.le_of_ble_eq_true rfl⟩ ⟨Nat.zero_le _, Nat.zero_le _⟩ (st1 := []) (Nat.le_of_ble_eq_true rfl) dX3_readUnit_48 (fun r4 w3 h => ?_)
    obtain ⟨ht, hf⟩ := h
    refine V_if_eq X (tgt := 70) dX3_readUnit_51 (by decide) (fun c => ?_) (fun c => ?_)
    · have h := ht c
      refine V_iload_n X (i := 3) 0 dX3_readUnit_70 rfl rfl ?_
      refine V_bipush X (v := (40 : Int32)) dX3_readUnit_71 (by decide) ?_
      obtain ⟨ht, hf⟩ := h
      refine V_icmp_eq X (tgt := 82) dX3_readUnit_73 (by decide) (fun c => ?_) (fun c => ?_)
      · have h := ht c
        refine V_iload_n X (i := 2) 3 dX3_readUnit_82 rfl rfl ?_
        refine V_bipush X (v := (6 : Int32)) dX3_readUnit_83 (by decide) ?_
        obtain ⟨ht, hf⟩ := h
        refine V_icmp_lt X (tgt := 94) dX3_readUnit_85 (by decide) (fun c => ?_) (fun c => ?_)
        · have h := ht c
          refine V_aload_n X (i := 0) 1 dX3_readUnit_94 rfl rfl ?_
          refine V_bipush X (v := (40 : Int32)) dX3_readUnit_95 (by decide) ?_
          refine K_3_takes X (Or.inl q_702) h ⟨Nat.le_of_ble_eq_true rfl, Nat.le_of_ble_eq_true rfl⟩ ⟨Nat.zero_le _, Nat.zero_le _⟩ (st1 := []) (Nat.le_of_ble_eq_true rfl) dX3_readUnit_97 (fun r6 w5 h => ?_)
          obtain ⟨ht, hf⟩ := h
          refine V_if_eq X (tgt := 127) dX3_readUnit_100 (by decide) (fun c => ?_) (fun c => ?_)
          · have h := ht c
            refine V_sub X (ls1 := []) [] rfl ?_
            exact v_3_readUnit_b127_q0 X hr hk1 _ h
          · have h := hf c
            refine V_aload_n X (i := 0) 1 dX3_readUnit_103 rfl rfl ?_
            refine V_aload_n X (i := 1) 2 dX3_readUnit_104 rfl rfl ?_
            refine V_iload_n X (i := 2) 3 dX3_readUnit_105 rfl rfl ?_
            refine V_iconst X (v := (1 : Int32)) dX3_readUnit_106 (by decide) ?_
            refine V_iadd X dX3_readUnit_107 ?_
            refine K_3_readSum_0 X (Or.inl q_724) hk1 h ⟨Nat.le_of_ble_eq_true rfl, Nat.le_of_ble_eq_true rfl⟩ ⟨Nat.zero_le _, Nat.zero_le _⟩ (st1 := []) (Nat.le_of_ble_eq_true rfl) dX3_readUnit_108 (fun r8 w7 h => ?_)
            obtain ⟨ht, hf⟩ := h
            refine V_if_eq X (tgt := 127) dX3_readUnit_111 (by decide) (fun c => ?_) (fun c => ?_)
            · have h := ht c
              refine V_sub X (ls1 := []) [] rfl ?_
              exact v_3_readUnit_b127_q0 X hr hk1 _ h
            · have h := hf c
              refine V_aload_n X (i := 0) 1 dX3_readUnit_114 rfl rfl ?_
              refine V_bipush X (v := (41 : Int32)) dX3_readUnit_115 (by decide) ?_
              refine K_3_takes X (Or.inl q_702) h ⟨Nat.le_of_ble_eq_true rfl, Nat.le_of_ble_eq_true rfl⟩ ⟨Nat.zero_le _, Nat.zero_le _⟩ (st1 := []) (Nat.le_of_ble_eq_true rfl) dX3_readUnit_117 (fun r10 w9 h => ?_)
              obtain ⟨ht, hf⟩ := h
              refine V_if_eq X (tgt := 127) dX3_readUnit_120 (by decide) (fun c => ?_) (fun c => ?_)
              · have h := ht c
                refine V_sub X (ls1 := []) [] rfl ?_
                exact v_3_readUnit_b127_q0 X hr hk1 _ h
              · have h := hf c
                refine V_iconst X (v := (1 : Int32)) dX3_readUnit_123 (by decide) ?_
                refine V_goto X (tgt := 128) dX3_readUnit_124 (by decide) ?_
                exact V_zret_c X hr dX3_readUnit_128 rfl h
        · have h := hf c
          refine V_aload_n X (i := 0) 1 dX3_readUnit_88 rfl rfl ?_
          refine V_iconst X (v := (2 : Int32)) dX3_readUnit_89 (by decide) ?_
          refine K_3_fails X (Or.inl q_694) h ⟨Nat.le_of_ble_eq_true rfl, Nat.le_of_ble_eq_true rfl⟩ ⟨Nat.zero_le _, Nat.zero_le _⟩ (st1 := []) (Nat.le_of_ble_eq_true rfl) dX3_readUnit_90 (fun r12 w11 h => ?_)
          exact V_zret_c X hr dX3_readUnit_93 (bo_z h.1) h.2
      · have h := hf c
        refine V_aload_n X (i := 0) 1 dX3_readUnit_76 rfl rfl ?_
        refine V_iconst X (v := (1 : Int32)) dX3_readUnit_77 (by decide) ?_
        refine K_3_fails X (Or.inl q_694) h ⟨Nat.le_of_ble_eq_true rfl, Nat.le_of_ble_eq_true rfl⟩ ⟨Nat.zero_le _, Nat.zero_le _⟩ (st1 := []) (Nat.le_of_ble_eq_true rfl) dX3_readUnit_78 (fun r14 w13 h => ?_)
        exact V_zret_c X hr dX3_readUnit_81 (bo_z h.1) h.2
    · have h := hf c
      refine V_aload_n X (i := 1) 2 dX3_readUnit_54 rfl rfl ?_
      refine V_iconst X (v := (1 : Int32)) dX3_readUnit_55 (by decide) ?_
      refine V_iload_n X (i := 3) 0 dX3_readUnit_56 rfl rfl ?_
      refine V_sipush X (v := (146 : Int32)) dX3_readUnit_57 (by decide) ?_
      refine V_isub X dX3_readUnit_60 ?_
      refine K_2_add X (Or.inl q_736) hk1 h ⟨Nat.le_of_ble_eq_true rfl, Nat.le_of_ble_eq_true rfl⟩ ⟨Nat.zero_le _, Nat.zero_le _⟩ (st1 := []) (Nat.le_of_ble_eq_true rfl) dX3_readUnit_61 (fun w15 h => ?_)
      refine V_aload_n X (i := 0) 1 dX3_readUnit_64 rfl rfl ?_
      refine V_iload_n X (i := 3) 0 dX3_readUnit_65 rfl rfl ?_
      refine K_3_takes X (Or.inl q_702) h ⟨Nat.le_of_ble_eq_true rfl, Nat.le_of_ble_eq_true rfl⟩ ⟨Nat.zero_le _, Nat.zero_le _⟩ (st1 := []) (Nat.le_of_ble_eq_true rfl) dX3_readUnit_66 (fun r17 w16 h => ?_)
      exact V_zret_c X hr dX3_readUnit_69 (bo_z h.1) h.2
  · have h := hf c
    refine V_aload_n X (i := 1) 2 dX3_readUnit_18 rfl rfl ?_
    refine V_iconst X (v := (0 : Int32)) dX3_readUnit_19 (by decide) ?_
    refine V_aload_n X (i := 0) 1 dX3_readUnit_20 rfl rfl ?_
    refine G_3_15 X dX3_readUnit_21 ?_
    refine G_3_170 X dX3_readUnit_24 ?_
    refine V_aload_n X (i := 0) 1 dX3_readUnit_27 rfl rfl ?_
    refine G_3_19 X dX3_readUnit_28 ?_
    obtain ⟨g18, h⟩ := h
    refine V_iald_c X (rfl : SLq 6 = 401) (by decide) (rfl : SK 6 = 14) g18 dX3_readUnit_31 ?_
    refine K_2_add X (Or.inl q_736) hk1 h ⟨Nat.le_of_ble_eq_true rfl, Nat.le_of_ble_eq_true rfl⟩ ⟨Nat.zero_le _, Nat.zero_le _⟩ (st1 := []) (Nat.le_of_ble_eq_true rfl) dX3_readUnit_32 (fun w19 h => ?_)
    refine V_aload_n X (i := 0) 1 dX3_readUnit_35 rfl rfl ?_
    refine V_iconst X (v := (3 : Int32)) dX3_readUnit_36 (by decide) ?_
    refine K_3_takes X (Or.inl q_702) h ⟨Nat.le_of_ble_eq_true rfl, Nat.le_of_ble_eq_true rfl⟩ ⟨Nat.zero_le _, Nat.zero_le _⟩ (st1 := []) (Nat.le_of_ble_eq_true rfl) dX3_readUnit_37 (fun r21 w20 h => ?_)
    exact V_zret_c X hr dX3_readUnit_40 (bo_z h.1) h.2
theorem c_3_readUnit_q0  {k1 : Nat} {a2 : Int32} (hinj : INJ ad) (hk1 : isLaw k1) {w : Mem} {Q : Int32 → Mem → Prop} (h : wp_3_readUnit (wp_3_readSum 0) k1 a2 w Q) : Met l yX3_readUnit (TBq yX3_readUnit cX3_readUnit 4 (some .boolean)) (RM 3) (va_Pc [.ref (ad 7), .ref (ad k1), .int a2] (PB ad cy D (cmb w wm) wl0)) (va_Qi Q (BC ad cy D wm wl0) (AW ad)) 0 0 (AW ad) := M_enter (by decide) (Nat.le_of_ble_eq_true rfl) hinj (fun p e s m args below meth c X hr => v_3_readUnit_q0 X hr hk1 h)
theorem K_3_readUnit_q0 {own : String} {idx : Nat}  {k1 : Nat} {a2 : Int32} (X : CXq p s m args meth c cc nL own ad cy D A H0) (hL : LK own idx yX3_readUnit) (hk1 : isLaw k1) {w : Mem} {Q : Int32 → Mem → Prop} (h : wp_3_readUnit (wp_3_readSum 0) k1 a2 w Q) (hR : (RM 3).frames + 1 ≤ R.frames ∧ 8 + (4 + 11) + (RM 3).locals ≤ R.locals) (hce : ce ≤ R.cells ∧ sl ≤ R.slots) (hcat : (st1.map fun v => v.category).sum ≤ 8) (hd : decode cc pc = .ok (.invokevirtual idx, 3)) (kk : ∀ (r : Int32) (u : Mem), Q r u → V p l e R s m args below meth c nL ad cy D A H0 ce sl Qs u wm wl0 (pc + 3) ls (.int r :: st1)) : V p l e R s m args below meth c nL ad cy D A H0 ce sl Qs w wm wl0 pc ls (.int a2 :: .ref (ad k1) :: .ref (ad 7) :: st1) := V_callVI_c X mf_3_readUnit hL (rfl : vwCl[3]? = some (RX3, TX3, 9)) (by decide) (rfl : SK 7 = 3) (Nat.lt_of_lt_of_le (by decide : 7 < 150) (CX_nn X)) (c_3_readUnit_q0 X.2.2.2.2.2.2.2.1 hk1 h) (As := [.ref (ad k1), .int a2]) rfl ⟨rfl, rfl⟩ hR hce st1 rfl hcat hd kk
set_option maxRecDepth 20000 in
theorem v_3_readProduct_b93_q0 (X : CXq p s m args meth c cX3_readProduct 6 yX3_readProduct.cls ad cy D (AW ad) s.heap) (hr : meth.sig.returnType = (some .boolean))  {k1 : Nat} (hk1 : isLaw k1) {Q : Int32 → Mem → Prop} {L10 : Int32 → Int32 → Int32 → Mem → Prop} (HL10 : ∀ (l2 : Int32) (l3 : Int32) (l4 : Int32) (w : Mem), L10 l2 l3 l4 w → V p l e (RM 4) s m args below meth c 6 ad cy D (AW ad) s.heap 0 0 (MQ below (va_Qi Q (BC ad cy D wm wl0) (AW ad)) args s 0 0 (AW ad)) w wm wl0 10 [(0, .ref (ad 7)), (1, .ref (ad k1)), (2, .int l2), (3, .int l3), (4, .int l4)] []) : ∀ (l2 : Int32) (l4 : Int32) (l5 : Int32) (s0 : Int32) (w : Mem), wp_3_readProduct_b93 (wp_3_readSum 0) k1 Q L10 l2 l4 l5 s0 w → V p l e (RM 4) s m args below meth c 6 ad cy D (AW ad) s.heap 0 0 (MQ below (va_Qi Q (BC ad cy D wm wl0) (AW ad)) args s 0 0 (AW ad)) w wm wl0 93 [(0, .ref (ad 7)), (1, .ref (ad k1)), (2, .int l2), (4, .int l4), (5, .int l5)] [.int s0] := by
  intro l2 l4 l5 s0 w h
  unfold wp_3_readProduct_b93 at h
  refine V_istore_n X dX3_readProduct_93 rfl (by decide) rfl (ls1 := [(3, .int s0), (0, .ref (ad 7)), (1, .ref (ad k1)), (2, .int l2), (4, .int l4), (5, .int l5)]) rfl ?_
  refine V_aload_n X (i := 1) 2 dX3_readProduct_94 rfl rfl ?_
  refine V_iload X (i := 5) 5 dX3_readProduct_95 rfl ?_
  refine V_iconst X (v := (0 : Int32)) dX3_readProduct_97 (by decide) ?_
  refine K_2_add X (Or.inl q_736) hk1 h ⟨Nat.le_of_ble_eq_true rfl, Nat.le_of_ble_eq_true rfl⟩ ⟨Nat.zero_le _, Nat.zero_le _⟩ (st1 := []) (Nat.le_of_ble_eq_true rfl) dX3_readProduct_98 (fun w1 h => ?_)
  obtain ⟨x2, ex2⟩ : ∃ y : Int32, y = l4 + (1 : Int32) := ⟨_, rfl⟩
  have h := h x2 ex2
  refine V_iinc X 4 dX3_readProduct_101 rfl (by decide) (by rw [ex2]; rfl) (ls1 := [(4, .int x2), (3, .int s0), (0, .ref (ad 7)), (1, .ref (ad k1)), (2, .int l2), (5, .int l5)]) rfl ?_
  refine V_goto X (tgt := 10) dX3_readProduct_104 (by decide) ?_
  refine V_sub X (ls1 := [(0, .ref (ad 7)), (1, .ref (ad k1)), (2, .int l2), (3, .int s0), (4, .int x2)]) [2, 3, 4, 1, 0] rfl ?_
  exact HL10 _ _ _ _ h
set_option maxRecDepth 20000 in
theorem v_3_readProduct_b92_q0 (X : CXq p s m args meth c cX3_readProduct 6 yX3_readProduct.cls ad cy D (AW ad) s.heap) (hr : meth.sig.returnType = (some .boolean))  {k1 : Nat} (hk1 : isLaw k1) {Q : Int32 → Mem → Prop} {L10 : Int32 → Int32 → Int32 → Mem → Prop} (HL10 : ∀ (l2 : Int32) (l3 : Int32) (l4 : Int32) (w : Mem), L10 l2 l3 l4 w → V p l e (RM 4) s m args below meth c 6 ad cy D (AW ad) s.heap 0 0 (MQ below (va_Qi Q (BC ad cy D wm wl0) (AW ad)) args s 0 0 (AW ad)) w wm wl0 10 [(0, .ref (ad 7)), (1, .ref (ad k1)), (2, .int l2), (3, .int l3), (4, .int l4)] []) : ∀ (l2 : Int32) (l4 : Int32) (l5 : Int32) (w : Mem), wp_3_readProduct_b92 (wp_3_readSum 0) k1 Q L10 l2 l4 l5 w → V p l e (RM 4) s m args below meth c 6 ad cy D (AW ad) s.heap 0 0 (MQ below (va_Qi Q (BC ad cy D wm wl0) (AW ad)) args s 0 0 (AW ad)) w wm wl0 92 [(0, .ref (ad 7)), (1, .ref (ad k1)), (2, .int l2), (4, .int l4), (5, .int l5)] [] := by
  intro l2 l4 l5 w h
  unfold wp_3_readProduct_b92 at h
  refine V_iconst X (v := (0 : Int32)) dX3_readProduct_92 (by decide) ?_
  refine V_sub X (ls1 := [(0, .ref (ad 7)), (1, .ref (ad k1)), (2, .int l2), (4, .int l4), (5, .int l5)]) [0, 1, 2, 3, 4] rfl ?_
  exact v_3_readProduct_b93_q0 X hr hk1 HL10 _ _ _ _ _ h
set_option maxRecDepth 20000 in
theorem v_3_readProduct_b56_q0 (X : CXq p s m args meth c cX3_readProduct 6 yX3_readProduct.cls ad cy D (AW ad) s.heap) (hr : meth.sig.returnType = (some .boolean))  {k1 : Nat} (hk1 : isLaw k1) {Q : Int32 → Mem → Prop} {L10 : Int32 → Int32 → Int32 → Mem → Prop} (HL10 : ∀ (l2 : Int32) (l3 : Int32) (l4 : Int32) (w : Mem), L10 l2 l3 l4 w → V p l e (RM 4) s m args below meth c 6 ad cy D (AW ad) s.heap 0 0 (MQ below (va_Qi Q (BC ad cy D wm wl0) (AW ad)) args s 0 0 (AW ad)) w wm wl0 10 [(0, .ref (ad 7)), (1, .ref (ad k1)), (2, .int l2), (3, .int l3), (4, .int l4)] []) : ∀ (l2 : Int32) (l4 : Int32) (w : Mem), wp_3_readProduct_b56 (wp_3_readSum 0) k1 Q L10 l2 l4 w → V p l e (RM 4) s m args below meth c 6 ad cy D (AW ad) s.heap 0 0 (MQ below (va_Qi Q (BC ad cy D wm wl0) (AW ad)) args s 0 0 (AW ad)) w wm wl0 56 [(0, .ref (ad 7)), (1, .ref (ad k1)), (2, .int l2), (4, .int l4)] [] := by
  intro l2 l4 w h
  unfold wp_3_readProduct_b56 at h
  refine V_aload_n X (i := 0) 0 dX3_readProduct_56 rfl rfl ?_
  refine G_3_15 X dX3_readProduct_57 ?_
  refine G_3_45 X dX3_readProduct_60 ?_
  refine V_aload_n X (i := 0) 0 dX3_readProduct_63 rfl rfl ?_
  refine G_3_19 X dX3_readProduct_64 ?_
  obtain ⟨g1, h⟩ := h
  refine V_iald_c X (rfl : SLq 4 = 401) (by decide) (rfl : SK 4 = 14) g1 dX3_readProduct_67 ?_
  obtain ⟨x2, ex2⟩ : ∃ y : Int32, y = (w 4 (ix (w 7 3))) := ⟨_, rfl⟩
  have h := h x2 ex2
  refine V_istore X dX3_readProduct_68 (by decide) ex2 (ls1 := [(5, .int x2), (0, .ref (ad 7)), (1, .ref (ad k1)), (2, .int l2), (4, .int l4)]) rfl ?_
  refine V_aload_n X (i := 0) 1 dX3_readProduct_70 rfl rfl ?_
  refine V_iload X (i := 5) 0 dX3_readProduct_71 rfl ?_
  refine K_3_takes X (Or.inl q_702) h ⟨Nat.le_of_ble_eq_true rfl, Nat.le_of_ble_eq_true rfl⟩ ⟨Nat.zero_le _, Nat.zero_le _⟩ (st1 := []) (Nat.le_of_ble_eq_true rfl) dX3_readProduct_73 (fun r4 w3 h => ?_)
  obtain ⟨ht, hf⟩ := h
  refine V_if_eq X (tgt := 92) dX3_readProduct_76 (by decide) (fun c => ?_) (fun c => ?_)
  · have h := ht c
    refine V_sub X (ls1 := [(0, .ref (ad 7)), (1, .ref (ad k1)), (2, .int l2), (4, .int l4), (5, .int x2)]) [1, 2, 3, 4, 0] rfl ?_
    exact v_3_readProduct_b92_q0 X hr hk1 HL10 _ _ _ _ h
  · have h := hf c
    refine V_aload_n X (i := 0) 1 dX3_readProduct_79 rfl rfl ?_
    refine V_aload_n X (i := 1) 2 dX3_readProduct_80 rfl rfl ?_
    refine V_iload_n X (i := 2) 3 dX3_readProduct_81 rfl rfl ?_
    refine K_3_readUnit_q0 X (Or.inl q_732) hk1 h ⟨Nat.le_of_ble_eq_true rfl, Nat.le_of_ble_eq_true rfl⟩ ⟨Nat.zero_le _, Nat.zero_le _⟩ (st1 := []) (Nat.le_of_ble_eq_true rfl) dX3_readProduct_82 (fun r6 w5 h => ?_)
    obtain ⟨ht, hf⟩ := h
    refine V_if_eq X (tgt := 92) dX3_readProduct_85 (by decide) (fun c => ?_) (fun c => ?_)
    · have h := ht c
      refine V_sub X (ls1 := [(0, .ref (ad 7)), (1, .ref (ad k1)), (2, .int l2), (4, .int l4), (5, .int x2)]) [1, 2, 3, 4, 0] rfl ?_
      exact v_3_readProduct_b92_q0 X hr hk1 HL10 _ _ _ _ h
    · have h := hf c
      refine V_iconst X (v := (1 : Int32)) dX3_readProduct_88 (by decide) ?_
      refine V_goto X (tgt := 93) dX3_readProduct_89 (by decide) ?_
      refine V_sub X (ls1 := [(0, .ref (ad 7)), (1, .ref (ad k1)), (2, .int l2), (4, .int l4), (5, .int x2)]) [1, 2, 3, 4, 0] rfl ?_
      exact v_3_readProduct_b93_q0 X hr hk1 HL10 _ _ _ _ _ h
set_option maxRecDepth 20000 in
theorem v_3_readProduct_b10_q0 (X : CXq p s m args meth c cX3_readProduct 6 yX3_readProduct.cls ad cy D (AW ad) s.heap) (hr : meth.sig.returnType = (some .boolean))  {k1 : Nat} (hk1 : isLaw k1) {Q : Int32 → Mem → Prop} : ∀ (n : Nat) (l2 : Int32) (l3 : Int32) (l4 : Int32) (w : Mem), wp_3_readProduct_b10 (wp_3_readSum 0) k1 Q n l2 l3 l4 w → V p l e (RM 4) s m args below meth c 6 ad cy D (AW ad) s.heap 0 0 (MQ below (va_Qi Q (BC ad cy D wm wl0) (AW ad)) args s 0 0 (AW ad)) w wm wl0 10 [(0, .ref (ad 7)), (1, .ref (ad k1)), (2, .int l2), (3, .int l3), (4, .int l4)] [] := by
  intro n
  induction n with
  | zero =>
    intro l2 l3 l4 w h
    exact h.elim
  | succ n ih =>
    intro l2 l3 l4 w h
    unfold wp_3_readProduct_b10 at h
    refine V_iload X (i := 4) 4 dX3_readProduct_10 rfl ?_
    refine V_sipush X (v := (400 : Int32)) dX3_readProduct_12 (by decide) ?_
    obtain ⟨ht, hf⟩ := h
    refine V_icmp_ge X (tgt := 107) dX3_readProduct_15 (by decide) (fun c => ?_) (fun c => ?_)
    · have h := ht c
      refine V_iload_n X (i := 3) 3 dX3_readProduct_107 rfl rfl ?_
      exact V_zret_c X hr dX3_readProduct_108 (bo_z h.1) h.2
    · have h := hf c
      refine V_iload_n X (i := 3) 3 dX3_readProduct_18 rfl rfl ?_
      obtain ⟨ht, hf⟩ := h
      refine V_if_eq X (tgt := 107) dX3_readProduct_19 (by decide) (fun c => ?_) (fun c => ?_)
      · have h := ht c
        refine V_iload_n X (i := 3) 3 dX3_readProduct_107 rfl rfl ?_
        exact V_zret_c X hr dX3_readProduct_108 (bo_z h.1) h.2
      · have h := hf c
        refine V_aload_n X (i := 0) 0 dX3_readProduct_22 rfl rfl ?_
        refine G_3_15 X dX3_readProduct_23 ?_
        refine G_3_45 X dX3_readProduct_26 ?_
        refine V_aload_n X (i := 0) 0 dX3_readProduct_29 rfl rfl ?_
        refine G_3_19 X dX3_readProduct_30 ?_
        obtain ⟨g1, h⟩ := h
        refine V_iald_c X (rfl : SLq 4 = 401) (by decide) (rfl : SK 4 = 14) g1 dX3_readProduct_33 ?_
        refine V_bipush X (v := (42 : Int32)) dX3_readProduct_34 (by decide) ?_
        obtain ⟨ht, hf⟩ := h
        refine V_icmp_eq X (tgt := 56) dX3_readProduct_36 (by decide) (fun c => ?_) (fun c => ?_)
        · have h := ht c
          refine V_sub X (ls1 := [(0, .ref (ad 7)), (1, .ref (ad k1)), (2, .int l2), (4, .int l4)]) [0, 1, 2, 4] rfl ?_
          exact v_3_readProduct_b56_q0 X hr hk1 ih _ _ _ h
        · have h := hf c
          refine V_aload_n X (i := 0) 0 dX3_readProduct_39 rfl rfl ?_
          refine G_3_15 X dX3_readProduct_40 ?_
          refine G_3_45 X dX3_readProduct_43 ?_
          refine V_aload_n X (i := 0) 0 dX3_readProduct_46 rfl rfl ?_
          refine G_3_19 X dX3_readProduct_47 ?_
          obtain ⟨g2, h⟩ := h
          refine V_iald_c X (rfl : SLq 4 = 401) (by decide) (rfl : SK 4 = 14) g2 dX3_readProduct_50 ?_
          refine V_bipush X (v := (47 : Int32)) dX3_readProduct_51 (by decide) ?_
          obtain ⟨ht, hf⟩ := h
          refine V_icmp_ne X (tgt := 107) dX3_readProduct_53 (by decide) (fun c => ?_) (fun c => ?_)
          · have h := ht c
            refine V_iload_n X (i := 3) 3 dX3_readProduct_107 rfl rfl ?_
            exact V_zret_c X hr dX3_readProduct_108 (bo_z h.1) h.2
          · have h := hf c
            refine V_sub X (ls1 := [(0, .ref (ad 7)), (1, .ref (ad k1)), (2, .int l2), (4, .int l4)]) [0, 1, 2, 4] rfl ?_
            exact v_3_readProduct_b56_q0 X hr hk1 ih _ _ _ h
set_option maxRecDepth 20000 in
theorem v_3_readProduct_q0  {k1 : Nat} {a2 : Int32} (X : CXq p s m args meth c cX3_readProduct 6 yX3_readProduct.cls ad cy D (AW ad) s.heap) (hr : meth.sig.returnType = (some .boolean)) (hk1 : isLaw k1) {w : Mem} {Q : Int32 → Mem → Prop} (h : wp_3_readProduct (wp_3_readSum 0) k1 a2 w Q) : V p l e (RM 4) s m args below meth c 6 ad cy D (AW ad) s.heap 0 0 (MQ below (va_Qi Q (BC ad cy D wm wl0) (AW ad)) args s 0 0 (AW ad)) w wm wl0 0 [(0, .ref (ad 7)), (1, .ref (ad k1)), (2, .int a2)] [] := by
  unfold wp_3_readProduct at h
  refine V_aload_n X (i := 0) 0 dX3_readProduct_0 rfl rfl ?_
  refine V_aload_n X (i := 1) 1 dX3_readProduct_1 rfl rfl ?_
  refine V_iload_n X (i := 2) 2 dX3_readProduct_2 rfl rfl ?_
  refine K_3_readUnit_q0 X (Or.inl q_732) hk1 h ⟨Nat.le_of_ble_eq_true rfl, Nat.le_of_ble_eq_true rfl⟩ ⟨Nat.zero_le _, Nat.zero_le _⟩ (st1 := []) (Nat.le_of_ble_eq_true rfl) dX3_readProduct_3 (fun r2 w1 h => ?_)
  refine V_istore_n X dX3_readProduct_6 rfl (by decide) rfl (ls1 := [(3, .int r2), (0, .ref (ad 7)), (1, .ref (ad k1)), (2, .int a2)]) rfl ?_
  refine V_iconst X (v := (0 : Int32)) dX3_readProduct_7 (by decide) ?_
  refine V_istore X dX3_readProduct_8 (by decide) rfl (ls1 := [(4, .int (0 : Int32)), (3, .int r2), (0, .ref (ad 7)), (1, .ref (ad k1)), (2, .int a2)]) rfl ?_
  refine V_sub X (ls1 := [(0, .ref (ad 7)), (1, .ref (ad k1)), (2, .int a2), (3, .int r2), (4, .int (0 : Int32))]) [2, 3, 4, 1, 0] rfl ?_
  obtain ⟨nn, h⟩ := h
  exact v_3_readProduct_b10_q0 X hr hk1 nn _ _ _ _ h
theorem c_3_readProduct_q0  {k1 : Nat} {a2 : Int32} (hinj : INJ ad) (hk1 : isLaw k1) {w : Mem} {Q : Int32 → Mem → Prop} (h : wp_3_readProduct (wp_3_readSum 0) k1 a2 w Q) : Met l yX3_readProduct (TBq yX3_readProduct cX3_readProduct 6 (some .boolean)) (RM 4) (va_Pc [.ref (ad 7), .ref (ad k1), .int a2] (PB ad cy D (cmb w wm) wl0)) (va_Qi Q (BC ad cy D wm wl0) (AW ad)) 0 0 (AW ad) := M_enter (by decide) (Nat.le_of_ble_eq_true rfl) hinj (fun p e s m args below meth c X hr => v_3_readProduct_q0 X hr hk1 h)
theorem K_3_readProduct_q0 {own : String} {idx : Nat}  {k1 : Nat} {a2 : Int32} (X : CXq p s m args meth c cc nL own ad cy D A H0) (hL : LK own idx yX3_readProduct) (hk1 : isLaw k1) {w : Mem} {Q : Int32 → Mem → Prop} (h : wp_3_readProduct (wp_3_readSum 0) k1 a2 w Q) (hR : (RM 4).frames + 1 ≤ R.frames ∧ 8 + (6 + 11) + (RM 4).locals ≤ R.locals) (hce : ce ≤ R.cells ∧ sl ≤ R.slots) (hcat : (st1.map fun v => v.category).sum ≤ 8) (hd : decode cc pc = .ok (.invokevirtual idx, 3)) (kk : ∀ (r : Int32) (u : Mem), Q r u → V p l e R s m args below meth c nL ad cy D A H0 ce sl Qs u wm wl0 (pc + 3) ls (.int r :: st1)) : V p l e R s m args below meth c nL ad cy D A H0 ce sl Qs w wm wl0 pc ls (.int a2 :: .ref (ad k1) :: .ref (ad 7) :: st1) := V_callVI_c X mf_3_readProduct hL (rfl : vwCl[3]? = some (RX3, TX3, 9)) (by decide) (rfl : SK 7 = 3) (Nat.lt_of_lt_of_le (by decide : 7 < 150) (CX_nn X)) (c_3_readProduct_q0 X.2.2.2.2.2.2.2.1 hk1 h) (As := [.ref (ad k1), .int a2]) rfl ⟨rfl, rfl⟩ hR hce st1 rfl hcat hd kk
set_option maxRecDepth 20000 in
theorem v_3_readSumF_b107_q0 (X : CXq p s m args meth c cX3_readSum 6 yX3_readSum.cls ad cy D (AW ad) s.heap) (hr : meth.sig.returnType = (some .boolean))  {k1 : Nat} (hk1 : isLaw k1) {Q : Int32 → Mem → Prop} : ∀ (l2 : Int32) (l3 : Int32) (w : Mem), wp_3_readSumF_b107 (wp_3_readSum 0) k1 Q l2 l3 w → V p l e (RM 5) s m args below meth c 6 ad cy D (AW ad) s.heap 0 0 (MQ below (va_Qi Q (BC ad cy D wm wl0) (AW ad)) args s 0 0 (AW ad)) w wm wl0 107 [(1, .ref (ad k1)), (2, .int l2), (3, .int l3)] [] := by
  intro l2 l3 w h
  unfold wp_3_readSumF_b107 at h
  refine V_iload_n X (i := 2) 1 dX3_readSum_107 rfl rfl ?_
  obtain ⟨ht, hf⟩ := h
  refine V_if_ne X (tgt := 115) dX3_readSum_108 (by decide) (fun c => ?_) (fun c => ?_)
  · have h := ht c
    refine V_iload_n X (i := 3) 2 dX3_readSum_115 rfl rfl ?_
    exact V_zret_c X hr dX3_readSum_116 (bo_z h.1) h.2
  · have h := hf c
    refine V_aload_n X (i := 1) 0 dX3_readSum_111 rfl rfl ?_
    refine K_2_endPiece X (Or.inl q_737) hk1 h ⟨Nat.le_of_ble_eq_true rfl, Nat.le_of_ble_eq_true rfl⟩ ⟨Nat.zero_le _, Nat.zero_le _⟩ (st1 := []) (Nat.le_of_ble_eq_true rfl) dX3_readSum_112 (fun w1 h => ?_)
    refine V_iload_n X (i := 3) 2 dX3_readSum_115 rfl rfl ?_
    exact V_zret_c X hr dX3_readSum_116 (bo_z h.1) h.2
set_option maxRecDepth 20000 in
theorem v_3_readSumF_b93_q0 (X : CXq p s m args meth c cX3_readSum 6 yX3_readSum.cls ad cy D (AW ad) s.heap) (hr : meth.sig.returnType = (some .boolean))  {k1 : Nat} (hk1 : isLaw k1) {Q : Int32 → Mem → Prop} {L10 : Int32 → Int32 → Int32 → Mem → Prop} (HL10 : ∀ (l2 : Int32) (l3 : Int32) (l4 : Int32) (w : Mem), L10 l2 l3 l4 w → V p l e (RM 5) s m args below meth c 6 ad cy D (AW ad) s.heap 0 0 (MQ below (va_Qi Q (BC ad cy D wm wl0) (AW ad)) args s 0 0 (AW ad)) w wm wl0 10 [(0, .ref (ad 7)), (1, .ref (ad k1)), (2, .int l2), (3, .int l3), (4, .int l4)] []) : ∀ (l2 : Int32) (l4 : Int32) (l5 : Int32) (s0 : Int32) (w : Mem), wp_3_readSumF_b93 (wp_3_readSum 0) k1 Q L10 l2 l4 l5 s0 w → V p l e (RM 5) s m args below meth c 6 ad cy D (AW ad) s.heap 0 0 (MQ below (va_Qi Q (BC ad cy D wm wl0) (AW ad)) args s 0 0 (AW ad)) w wm wl0 93 [(0, .ref (ad 7)), (1, .ref (ad k1)), (2, .int l2), (4, .int l4), (5, .int l5)] [.int s0] := by
  intro l2 l4 l5 s0 w h
  unfold wp_3_readSumF_b93 at h
  refine V_istore_n X dX3_readSum_93 rfl (by decide) rfl (ls1 := [(3, .int s0), (0, .ref (ad 7)), (1, .ref (ad k1)), (2, .int l2), (4, .int l4), (5, .int l5)]) rfl ?_
  refine V_aload_n X (i := 1) 2 dX3_readSum_94 rfl rfl ?_
  refine V_iload X (i := 5) 5 dX3_readSum_95 rfl ?_
  refine V_iconst X (v := (0 : Int32)) dX3_readSum_97 (by decide) ?_
  refine K_2_add X (Or.inl q_736) hk1 h ⟨Nat.le_of_ble_eq_true rfl, Nat.le_of_ble_eq_true rfl⟩ ⟨Nat.zero_le _, Nat.zero_le _⟩ (st1 := []) (Nat.le_of_ble_eq_true rfl) dX3_readSum_98 (fun w1 h => ?_)
  obtain ⟨x2, ex2⟩ : ∃ y : Int32, y = l4 + (1 : Int32) := ⟨_, rfl⟩
  have h := h x2 ex2
  refine V_iinc X 4 dX3_readSum_101 rfl (by decide) (by rw [ex2]; rfl) (ls1 := [(4, .int x2), (3, .int s0), (0, .ref (ad 7)), (1, .ref (ad k1)), (2, .int l2), (5, .int l5)]) rfl ?_
  refine V_goto X (tgt := 10) dX3_readSum_104 (by decide) ?_
  refine V_sub X (ls1 := [(0, .ref (ad 7)), (1, .ref (ad k1)), (2, .int l2), (3, .int s0), (4, .int x2)]) [2, 3, 4, 1, 0] rfl ?_
  exact HL10 _ _ _ _ h
set_option maxRecDepth 20000 in
theorem v_3_readSumF_b92_q0 (X : CXq p s m args meth c cX3_readSum 6 yX3_readSum.cls ad cy D (AW ad) s.heap) (hr : meth.sig.returnType = (some .boolean))  {k1 : Nat} (hk1 : isLaw k1) {Q : Int32 → Mem → Prop} {L10 : Int32 → Int32 → Int32 → Mem → Prop} (HL10 : ∀ (l2 : Int32) (l3 : Int32) (l4 : Int32) (w : Mem), L10 l2 l3 l4 w → V p l e (RM 5) s m args below meth c 6 ad cy D (AW ad) s.heap 0 0 (MQ below (va_Qi Q (BC ad cy D wm wl0) (AW ad)) args s 0 0 (AW ad)) w wm wl0 10 [(0, .ref (ad 7)), (1, .ref (ad k1)), (2, .int l2), (3, .int l3), (4, .int l4)] []) : ∀ (l2 : Int32) (l4 : Int32) (l5 : Int32) (w : Mem), wp_3_readSumF_b92 (wp_3_readSum 0) k1 Q L10 l2 l4 l5 w → V p l e (RM 5) s m args below meth c 6 ad cy D (AW ad) s.heap 0 0 (MQ below (va_Qi Q (BC ad cy D wm wl0) (AW ad)) args s 0 0 (AW ad)) w wm wl0 92 [(0, .ref (ad 7)), (1, .ref (ad k1)), (2, .int l2), (4, .int l4), (5, .int l5)] [] := by
  intro l2 l4 l5 w h
  unfold wp_3_readSumF_b92 at h
  refine V_iconst X (v := (0 : Int32)) dX3_readSum_92 (by decide) ?_
  refine V_sub X (ls1 := [(0, .ref (ad 7)), (1, .ref (ad k1)), (2, .int l2), (4, .int l4), (5, .int l5)]) [0, 1, 2, 3, 4] rfl ?_
  exact v_3_readSumF_b93_q0 X hr hk1 HL10 _ _ _ _ _ h
set_option maxRecDepth 20000 in
theorem v_3_readSumF_b56_q0 (X : CXq p s m args meth c cX3_readSum 6 yX3_readSum.cls ad cy D (AW ad) s.heap) (hr : meth.sig.returnType = (some .boolean))  {k1 : Nat} (hk1 : isLaw k1) {Q : Int32 → Mem → Prop} {L10 : Int32 → Int32 → Int32 → Mem → Prop} (HL10 : ∀ (l2 : Int32) (l3 : Int32) (l4 : Int32) (w : Mem), L10 l2 l3 l4 w → V p l e (RM 5) s m args below meth c 6 ad cy D (AW ad) s.heap 0 0 (MQ below (va_Qi Q (BC ad cy D wm wl0) (AW ad)) args s 0 0 (AW ad)) w wm wl0 10 [(0, .ref (ad 7)), (1, .ref (ad k1)), (2, .int l2), (3, .int l3), (4, .int l4)] []) : ∀ (l2 : Int32) (l4 : Int32) (w : Mem), wp_3_readSumF_b56 (wp_3_readSum 0) k1 Q L10 l2 l4 w → V p l e (RM 5) s m args below meth c 6 ad cy D (AW ad) s.heap 0 0 (MQ below (va_Qi Q (BC ad cy D wm wl0) (AW ad)) args s 0 0 (AW ad)) w wm wl0 56 [(0, .ref (ad 7)), (1, .ref (ad k1)), (2, .int l2), (4, .int l4)] [] := by
  intro l2 l4 w h
  unfold wp_3_readSumF_b56 at h
  refine V_aload_n X (i := 0) 0 dX3_readSum_56 rfl rfl ?_
  refine G_3_15 X dX3_readSum_57 ?_
  refine G_3_45 X dX3_readSum_60 ?_
  refine V_aload_n X (i := 0) 0 dX3_readSum_63 rfl rfl ?_
  refine G_3_19 X dX3_readSum_64 ?_
  obtain ⟨g1, h⟩ := h
  refine V_iald_c X (rfl : SLq 4 = 401) (by decide) (rfl : SK 4 = 14) g1 dX3_readSum_67 ?_
  obtain ⟨x2, ex2⟩ : ∃ y : Int32, y = (w 4 (ix (w 7 3))) := ⟨_, rfl⟩
  have h := h x2 ex2
  refine V_istore X dX3_readSum_68 (by decide) ex2 (ls1 := [(5, .int x2), (0, .ref (ad 7)), (1, .ref (ad k1)), (2, .int l2), (4, .int l4)]) rfl ?_
  refine V_aload_n X (i := 0) 1 dX3_readSum_70 rfl rfl ?_
  refine V_iload X (i := 5) 0 dX3_readSum_71 rfl ?_
  refine K_3_takes X (Or.inl q_702) h ⟨Nat.le_of_ble_eq_true rfl, Nat.le_of_ble_eq_true rfl⟩ ⟨Nat.zero_le _, Nat.zero_le _⟩ (st1 := []) (Nat.le_of_ble_eq_true rfl) dX3_readSum_73 (fun r4 w3 h => ?_)
  obtain ⟨ht, hf⟩ := h
  refine V_if_eq X (tgt := 92) dX3_readSum_76 (by decide) (fun c => ?_) (fun c => ?_)
  · have h := ht c
    refine V_sub X (ls1 := [(0, .ref (ad 7)), (1, .ref (ad k1)), (2, .int l2), (4, .int l4), (5, .int x2)]) [1, 2, 3, 4, 0] rfl ?_
    exact v_3_readSumF_b92_q0 X hr hk1 HL10 _ _ _ _ h
  · have h := hf c
    refine V_aload_n X (i := 0) 1 dX3_readSum_79 rfl rfl ?_
    refine V_aload_n X (i := 1) 2 dX3_readSum_80 rfl rfl ?_
    refine V_iload_n X (i := 2) 3 dX3_readSum_81 rfl rfl ?_
    refine K_3_readProduct_q0 X (Or.inl q_728) hk1 h ⟨Nat.le_of_ble_eq_true rfl, Nat.le_of_ble_eq_true rfl⟩ ⟨Nat.zero_le _, Nat.zero_le _⟩ (st1 := []) (Nat.le_of_ble_eq_true rfl) dX3_readSum_82 (fun r6 w5 h => ?_)
    obtain ⟨ht, hf⟩ := h
    refine V_if_eq X (tgt := 92) dX3_readSum_85 (by decide) (fun c => ?_) (fun c => ?_)
    · have h := ht c
      refine V_sub X (ls1 := [(0, .ref (ad 7)), (1, .ref (ad k1)), (2, .int l2), (4, .int l4), (5, .int x2)]) [1, 2, 3, 4, 0] rfl ?_
      exact v_3_readSumF_b92_q0 X hr hk1 HL10 _ _ _ _ h
    · have h := hf c
      refine V_iconst X (v := (1 : Int32)) dX3_readSum_88 (by decide) ?_
      refine V_goto X (tgt := 93) dX3_readSum_89 (by decide) ?_
      refine V_sub X (ls1 := [(0, .ref (ad 7)), (1, .ref (ad k1)), (2, .int l2), (4, .int l4), (5, .int x2)]) [1, 2, 3, 4, 0] rfl ?_
      exact v_3_readSumF_b93_q0 X hr hk1 HL10 _ _ _ _ _ h
set_option maxRecDepth 20000 in
theorem v_3_readSumF_b10_q0 (X : CXq p s m args meth c cX3_readSum 6 yX3_readSum.cls ad cy D (AW ad) s.heap) (hr : meth.sig.returnType = (some .boolean))  {k1 : Nat} (hk1 : isLaw k1) {Q : Int32 → Mem → Prop} : ∀ (n : Nat) (l2 : Int32) (l3 : Int32) (l4 : Int32) (w : Mem), wp_3_readSumF_b10 (wp_3_readSum 0) k1 Q n l2 l3 l4 w → V p l e (RM 5) s m args below meth c 6 ad cy D (AW ad) s.heap 0 0 (MQ below (va_Qi Q (BC ad cy D wm wl0) (AW ad)) args s 0 0 (AW ad)) w wm wl0 10 [(0, .ref (ad 7)), (1, .ref (ad k1)), (2, .int l2), (3, .int l3), (4, .int l4)] [] := by
  intro n
  induction n with
  | zero =>
    intro l2 l3 l4 w h
    exact h.elim
  | succ n ih =>
    intro l2 l3 l4 w h
    unfold wp_3_readSumF_b10 at h
    refine V_iload X (i := 4) 4 dX3_readSum_10 rfl ?_
    refine V_sipush X (v := (400 : Int32)) dX3_readSum_12 (by decide) ?_
    obtain ⟨ht, hf⟩ := h
    refine V_icmp_ge X (tgt := 107) dX3_readSum_15 (by decide) (fun c => ?_) (fun c => ?_)
    · have h := ht c
      refine V_sub X (ls1 := [(1, .ref (ad k1)), (2, .int l2), (3, .int l3)]) [1, 2, 3] rfl ?_
      exact v_3_readSumF_b107_q0 X hr hk1 _ _ _ h
    · have h := hf c
      refine V_iload_n X (i := 3) 3 dX3_readSum_18 rfl rfl ?_
      obtain ⟨ht, hf⟩ := h
      refine V_if_eq X (tgt := 107) dX3_readSum_19 (by decide) (fun c => ?_) (fun c => ?_)
      · have h := ht c
        refine V_sub X (ls1 := [(1, .ref (ad k1)), (2, .int l2), (3, .int l3)]) [1, 2, 3] rfl ?_
        exact v_3_readSumF_b107_q0 X hr hk1 _ _ _ h
      · have h := hf c
        refine V_aload_n X (i := 0) 0 dX3_readSum_22 rfl rfl ?_
        refine G_3_15 X dX3_readSum_23 ?_
        refine G_3_45 X dX3_readSum_26 ?_
        refine V_aload_n X (i := 0) 0 dX3_readSum_29 rfl rfl ?_
        refine G_3_19 X dX3_readSum_30 ?_
        obtain ⟨g1, h⟩ := h
        refine V_iald_c X (rfl : SLq 4 = 401) (by decide) (rfl : SK 4 = 14) g1 dX3_readSum_33 ?_
        refine V_bipush X (v := (43 : Int32)) dX3_readSum_34 (by decide) ?_
        obtain ⟨ht, hf⟩ := h
        refine V_icmp_eq X (tgt := 56) dX3_readSum_36 (by decide) (fun c => ?_) (fun c => ?_)
        · have h := ht c
          refine V_sub X (ls1 := [(0, .ref (ad 7)), (1, .ref (ad k1)), (2, .int l2), (4, .int l4)]) [0, 1, 2, 4] rfl ?_
          exact v_3_readSumF_b56_q0 X hr hk1 ih _ _ _ h
        · have h := hf c
          refine V_aload_n X (i := 0) 0 dX3_readSum_39 rfl rfl ?_
          refine G_3_15 X dX3_readSum_40 ?_
          refine G_3_45 X dX3_readSum_43 ?_
          refine V_aload_n X (i := 0) 0 dX3_readSum_46 rfl rfl ?_
          refine G_3_19 X dX3_readSum_47 ?_
          obtain ⟨g2, h⟩ := h
          refine V_iald_c X (rfl : SLq 4 = 401) (by decide) (rfl : SK 4 = 14) g2 dX3_readSum_50 ?_
          refine V_bipush X (v := (45 : Int32)) dX3_readSum_51 (by decide) ?_
          obtain ⟨ht, hf⟩ := h
          refine V_icmp_ne X (tgt := 107) dX3_readSum_53 (by decide) (fun c => ?_) (fun c => ?_)
          · have h := ht c
            refine V_sub X (ls1 := [(1, .ref (ad k1)), (2, .int l2), (3, .int l3)]) [1, 2, 3] rfl ?_
            exact v_3_readSumF_b107_q0 X hr hk1 _ _ _ h
          · have h := hf c
            refine V_sub X (ls1 := [(0, .ref (ad 7)), (1, .ref (ad k1)), (2, .int l2), (4, .int l4)]) [0, 1, 2, 4] rfl ?_
            exact v_3_readSumF_b56_q0 X hr hk1 ih _ _ _ h
set_option maxRecDepth 20000 in
theorem v_3_readSumF_q0  {k1 : Nat} {a2 : Int32} (X : CXq p s m args meth c cX3_readSum 6 yX3_readSum.cls ad cy D (AW ad) s.heap) (hr : meth.sig.returnType = (some .boolean)) (hk1 : isLaw k1) {w : Mem} {Q : Int32 → Mem → Prop} (h : wp_3_readSumF (wp_3_readSum 0) k1 a2 w Q) : V p l e (RM 5) s m args below meth c 6 ad cy D (AW ad) s.heap 0 0 (MQ below (va_Qi Q (BC ad cy D wm wl0) (AW ad)) args s 0 0 (AW ad)) w wm wl0 0 [(0, .ref (ad 7)), (1, .ref (ad k1)), (2, .int a2)] [] := by
  unfold wp_3_readSumF at h
  refine V_aload_n X (i := 0) 0 dX3_readSum_0 rfl rfl ?_
  refine V_aload_n X (i := 1) 1 dX3_readSum_1 rfl rfl ?_
  refine V_iload_n X (i := 2) 2 dX3_readSum_2 rfl rfl ?_
  refine K_3_readProduct_q0 X (Or.inl q_728) hk1 h ⟨Nat.le_of_ble_eq_true rfl, Nat.le_of_ble_eq_true rfl⟩ ⟨Nat.zero_le _, Nat.zero_le _⟩ (st1 := []) (Nat.le_of_ble_eq_true rfl) dX3_readSum_3 (fun r2 w1 h => ?_)
  refine V_istore_n X dX3_readSum_6 rfl (by decide) rfl (ls1 := [(3, .int r2), (0, .ref (ad 7)), (1, .ref (ad k1)), (2, .int a2)]) rfl ?_
  refine V_iconst X (v := (0 : Int32)) dX3_readSum_7 (by decide) ?_
  refine V_istore X dX3_readSum_8 (by decide) rfl (ls1 := [(4, .int (0 : Int32)), (3, .int r2), (0, .ref (ad 7)), (1, .ref (ad k1)), (2, .int a2)]) rfl ?_
  refine V_sub X (ls1 := [(0, .ref (ad 7)), (1, .ref (ad k1)), (2, .int a2), (3, .int r2), (4, .int (0 : Int32))]) [2, 3, 4, 1, 0] rfl ?_
  obtain ⟨nn, h⟩ := h
  exact v_3_readSumF_b10_q0 X hr hk1 nn _ _ _ _ h
theorem c_3_readSumF_q0  {k1 : Nat} {a2 : Int32} (hinj : INJ ad) (hk1 : isLaw k1) {w : Mem} {Q : Int32 → Mem → Prop} (h : wp_3_readSumF (wp_3_readSum 0) k1 a2 w Q) : Met l yX3_readSum (TBq yX3_readSum cX3_readSum 6 (some .boolean)) (RM 5) (va_Pc [.ref (ad 7), .ref (ad k1), .int a2] (PB ad cy D (cmb w wm) wl0)) (va_Qi Q (BC ad cy D wm wl0) (AW ad)) 0 0 (AW ad) := M_enter (by decide) (Nat.le_of_ble_eq_true rfl) hinj (fun p e s m args below meth c X hr => v_3_readSumF_q0 X hr hk1 h)
theorem K_3_readSumF_q0 {own : String} {idx : Nat}  {k1 : Nat} {a2 : Int32} (X : CXq p s m args meth c cc nL own ad cy D A H0) (hL : LK own idx yX3_readSum) (hk1 : isLaw k1) {w : Mem} {Q : Int32 → Mem → Prop} (h : wp_3_readSumF (wp_3_readSum 0) k1 a2 w Q) (hR : (RM 5).frames + 1 ≤ R.frames ∧ 8 + (6 + 11) + (RM 5).locals ≤ R.locals) (hce : ce ≤ R.cells ∧ sl ≤ R.slots) (hcat : (st1.map fun v => v.category).sum ≤ 8) (hd : decode cc pc = .ok (.invokevirtual idx, 3)) (kk : ∀ (r : Int32) (u : Mem), Q r u → V p l e R s m args below meth c nL ad cy D A H0 ce sl Qs u wm wl0 (pc + 3) ls (.int r :: st1)) : V p l e R s m args below meth c nL ad cy D A H0 ce sl Qs w wm wl0 pc ls (.int a2 :: .ref (ad k1) :: .ref (ad 7) :: st1) := V_callVI_c X mf_3_readSumF hL (rfl : vwCl[3]? = some (RX3, TX3, 9)) (by decide) (rfl : SK 7 = 3) (Nat.lt_of_lt_of_le (by decide : 7 < 150) (CX_nn X)) (c_3_readSumF_q0 X.2.2.2.2.2.2.2.1 hk1 h) (As := [.ref (ad k1), .int a2]) rfl ⟨rfl, rfl⟩ hR hce st1 rfl hcat hd kk
theorem K_3_readSum_1 {own : String} {idx : Nat}  {k1 : Nat} {a2 : Int32} (X : CXq p s m args meth c cc nL own ad cy D A H0) (hL : LK own idx yX3_readSum) (hk1 : isLaw k1) {w : Mem} {Q : Int32 → Mem → Prop} (h : wp_3_readSum 1 k1 a2 w Q) (hR : (RM 5).frames + 1 ≤ R.frames ∧ 8 + (6 + 11) + (RM 5).locals ≤ R.locals) (hce : ce ≤ R.cells ∧ sl ≤ R.slots) (hcat : (st1.map fun v => v.category).sum ≤ 8) (hd : decode cc pc = .ok (.invokevirtual idx, 3)) (kk : ∀ (r : Int32) (u : Mem), Q r u → V p l e R s m args below meth c nL ad cy D A H0 ce sl Qs u wm wl0 (pc + 3) ls (.int r :: st1)) : V p l e R s m args below meth c nL ad cy D A H0 ce sl Qs w wm wl0 pc ls (.int a2 :: .ref (ad k1) :: .ref (ad 7) :: st1) := K_3_readSumF_q0 X hL hk1 h hR hce hcat hd kk
set_option maxRecDepth 20000 in
theorem v_3_readUnit_b127_q1 (X : CXq p s m args meth c cX3_readUnit 4 yX3_readUnit.cls ad cy D (AW ad) s.heap) (hr : meth.sig.returnType = (some .boolean))  {k1 : Nat} (hk1 : isLaw k1) {Q : Int32 → Mem → Prop} : ∀ (w : Mem), wp_3_readUnit_b127 (wp_3_readSum 1) k1 Q w → V p l e (RM 6) s m args below meth c 4 ad cy D (AW ad) s.heap 0 0 (MQ below (va_Qi Q (BC ad cy D wm wl0) (AW ad)) args s 0 0 (AW ad)) w wm wl0 127 [] [] := by
  intro w h
  unfold wp_3_readUnit_b127 at h
  refine V_iconst X (v := (0 : Int32)) dX3_readUnit_127 (by decide) ?_
  exact V_zret_c X hr dX3_readUnit_128 rfl h
set_option maxRecDepth 20000 in
theorem v_3_readUnit_q1  {k1 : Nat} {a2 : Int32} (X : CXq p s m args meth c cX3_readUnit 4 yX3_readUnit.cls ad cy D (AW ad) s.heap) (hr : meth.sig.returnType = (some .boolean)) (hk1 : isLaw k1) {w : Mem} {Q : Int32 → Mem → Prop} (h : wp_3_readUnit (wp_3_readSum 1) k1 a2 w Q) : V p l e (RM 6) s m args below meth c 4 ad cy D (AW ad) s.heap 0 0 (MQ below (va_Qi Q (BC ad cy D wm wl0) (AW ad)) args s 0 0 (AW ad)) w wm wl0 0 [(0, .ref (ad 7)), (1, .ref (ad k1)), (2, .int a2)] [] := by
  unfold wp_3_readUnit at h
  refine V_aload_n X (i := 0) 0 dX3_readUnit_0 rfl rfl ?_
  refine G_3_15 X dX3_readUnit_1 ?_
  refine G_3_45 X dX3_readUnit_4 ?_
  refine V_aload_n X (i := 0) 0 dX3_readUnit_7 rfl rfl ?_
  refine G_3_19 X dX3_readUnit_8 ?_
  obtain ⟨g1, h⟩ := h
  refine V_iald_c X (rfl : SLq 4 = 401) (by decide) (rfl : SK 4 = 14) g1 dX3_readUnit_11 ?_
  obtain ⟨x2, ex2⟩ : ∃ y : Int32, y = (w 4 (ix (w 7 3))) := ⟨_, rfl⟩
  have h := h x2 ex2
  refine V_istore_n X dX3_readUnit_12 rfl (by decide) ex2 (ls1 := [(3, .int x2), (0, .ref (ad 7)), (1, .ref (ad k1)), (2, .int a2)]) rfl ?_
  refine V_iload_n X (i := 3) 0 dX3_readUnit_13 rfl rfl ?_
  refine V_iconst X (v := (3 : Int32)) dX3_readUnit_14 (by decide) ?_
  obtain ⟨ht, hf⟩ := h
  refine V_icmp_ne X (tgt := 41) dX3_readUnit_15 (by decide) (fun c => ?_) (fun c => ?_)
  · have h := ht c
    refine V_iload_n X (i := 3) 0 dX3_readUnit_41 rfl rfl ?_
    refine V_sipush X (v := (146 : Int32)) dX3_readUnit_42 (by decide) ?_
    refine V_sipush X (v := (156 : Int32)) dX3_readUnit_45 (by decide) ?_
    refine K_11_within X (Or.inr ⟨_, q_714⟩) h ⟨Nat.le_of_ble_eq_true rfl, Nat.le_of_ble_eq_true rfl⟩ ⟨Nat.zero_le _, Nat.zero_le _⟩ (st1 := []) (Nat.le_of_ble_eq_true rfl) dX3_readUnit_48 (fun r4 w3 h => ?_)
    obtain ⟨ht, hf⟩ := h
    refine V_if_eq X (tgt := 70) dX3_readUnit_51 (by decide) (fun c => ?_) (fun c => ?_)
    · have h := ht c
      refine V_iload_n X (i := 3) 0 dX3_readUnit_70 rfl rfl ?_
      refine V_bipush X (v := (40 : Int32)) dX3_readUnit_71 (by decide) ?_
      obtain ⟨ht, hf⟩ := h
      refine V_icmp_eq X (tgt := 82) dX3_readUnit_73 (by decide) (fun c => ?_) (fun c => ?_)
      · have h := ht c
        refine V_iload_n X (i := 2) 3 dX3_readUnit_82 rfl rfl ?_
        refine V_bipush X (v := (6 : Int32)) dX3_readUnit_83 (by decide) ?_
        obtain ⟨ht, hf⟩ := h
        refine V_icmp_lt X (tgt := 94) dX3_readUnit_85 (by decide) (fun c => ?_) (fun c => ?_)
        · have h := ht c
          refine V_aload_n X (i := 0) 1 dX3_readUnit_94 rfl rfl ?_
          refine V_bipush X (v := (40 : Int32)) dX3_readUnit_95 (by decide) ?_
          refine K_3_takes X (Or.inl q_702) h ⟨Nat.le_of_ble_eq_true rfl, Nat.le_of_ble_eq_true rfl⟩ ⟨Nat.zero_le _, Nat.zero_le _⟩ (st1 := []) (Nat.le_of_ble_eq_true rfl) dX3_readUnit_97 (fun r6 w5 h => ?_)
          obtain ⟨ht, hf⟩ := h
          refine V_if_eq X (tgt := 127) dX3_readUnit_100 (by decide) (fun c => ?_) (fun c => ?_)
          · have h := ht c
            refine V_sub X (ls1 := []) [] rfl ?_
            exact v_3_readUnit_b127_q1 X hr hk1 _ h
          · have h := hf c
            refine V_aload_n X (i := 0) 1 dX3_readUnit_103 rfl rfl ?_
            refine V_aload_n X (i := 1) 2 dX3_readUnit_104 rfl rfl ?_
            refine V_iload_n X (i := 2) 3 dX3_readUnit_105 rfl rfl ?_
            refine V_iconst X (v := (1 : Int32)) dX3_readUnit_106 (by decide) ?_
            refine V_iadd X dX3_readUnit_107 ?_
            refine K_3_readSum_1 X (Or.inl q_724) hk1 h ⟨Nat.le_of_ble_eq_true rfl, Nat.le_of_ble_eq_true rfl⟩ ⟨Nat.zero_le _, Nat.zero_le _⟩ (st1 := []) (Nat.le_of_ble_eq_true rfl) dX3_readUnit_108 (fun r8 w7 h => ?_)
            obtain ⟨ht, hf⟩ := h
            refine V_if_eq X (tgt := 127) dX3_readUnit_111 (by decide) (fun c => ?_) (fun c => ?_)
            · have h := ht c
              refine V_sub X (ls1 := []) [] rfl ?_
              exact v_3_readUnit_b127_q1 X hr hk1 _ h
            · have h := hf c
              refine V_aload_n X (i := 0) 1 dX3_readUnit_114 rfl rfl ?_
              refine V_bipush X (v := (41 : Int32)) dX3_readUnit_115 (by decide) ?_
              refine K_3_takes X (Or.inl q_702) h ⟨Nat.le_of_ble_eq_true rfl, Nat.le_of_ble_eq_true rfl⟩ ⟨Nat.zero_le _, Nat.zero_le _⟩ (st1 := []) (Nat.le_of_ble_eq_true rfl) dX3_readUnit_117 (fun r10 w9 h => ?_)
              obtain ⟨ht, hf⟩ := h
              refine V_if_eq X (tgt := 127) dX3_readUnit_120 (by decide) (fun c => ?_) (fun c => ?_)
              · have h := ht c
                refine V_sub X (ls1 := []) [] rfl ?_
                exact v_3_readUnit_b127_q1 X hr hk1 _ h
              · have h := hf c
                refine V_iconst X (v := (1 : Int32)) dX3_readUnit_123 (by decide) ?_
                refine V_goto X (tgt := 128) dX3_readUnit_124 (by decide) ?_
                exact V_zret_c X hr dX3_readUnit_128 rfl h
        · have h := hf c
          refine V_aload_n X (i := 0) 1 dX3_readUnit_88 rfl rfl ?_
          refine V_iconst X (v := (2 : Int32)) dX3_readUnit_89 (by decide) ?_
          refine K_3_fails X (Or.inl q_694) h ⟨Nat.le_of_ble_eq_true rfl, Nat.le_of_ble_eq_true rfl⟩ ⟨Nat.zero_le _, Nat.zero_le _⟩ (st1 := []) (Nat.le_of_ble_eq_true rfl) dX3_readUnit_90 (fun r12 w11 h => ?_)
          exact V_zret_c X hr dX3_readUnit_93 (bo_z h.1) h.2
      · have h := hf c
        refine V_aload_n X (i := 0) 1 dX3_readUnit_76 rfl rfl ?_
        refine V_iconst X (v := (1 : Int32)) dX3_readUnit_77 (by decide) ?_
        refine K_3_fails X (Or.inl q_694) h ⟨Nat.le_of_ble_eq_true rfl, Nat.le_of_ble_eq_true rfl⟩ ⟨Nat.zero_le _, Nat.zero_le _⟩ (st1 := []) (Nat.le_of_ble_eq_true rfl) dX3_readUnit_78 (fun r14 w13 h => ?_)
        exact V_zret_c X hr dX3_readUnit_81 (bo_z h.1) h.2
    · have h := hf c
      refine V_aload_n X (i := 1) 2 dX3_readUnit_54 rfl rfl ?_
      refine V_iconst X (v := (1 : Int32)) dX3_readUnit_55 (by decide) ?_
      refine V_iload_n X (i := 3) 0 dX3_readUnit_56 rfl rfl ?_
      refine V_sipush X (v := (146 : Int32)) dX3_readUnit_57 (by decide) ?_
      refine V_isub X dX3_readUnit_60 ?_
      refine K_2_add X (Or.inl q_736) hk1 h ⟨Nat.le_of_ble_eq_true rfl, Nat.le_of_ble_eq_true rfl⟩ ⟨Nat.zero_le _, Nat.zero_le _⟩ (st1 := []) (Nat.le_of_ble_eq_true rfl) dX3_readUnit_61 (fun w15 h => ?_)
      refine V_aload_n X (i := 0) 1 dX3_readUnit_64 rfl rfl ?_
      refine V_iload_n X (i := 3) 0 dX3_readUnit_65 rfl rfl ?_
      refine K_3_takes X (Or.inl q_702) h ⟨Nat.le_of_ble_eq_true rfl, Nat.le_of_ble_eq_true rfl⟩ ⟨Nat.zero_le _, Nat.zero_le _⟩ (st1 := []) (Nat.le_of_ble_eq_true rfl) dX3_readUnit_66 (fun r17 w16 h => ?_)
      exact V_zret_c X hr dX3_readUnit_69 (bo_z h.1) h.2
  · have h := hf c
    refine V_aload_n X (i := 1) 2 dX3_readUnit_18 rfl rfl ?_
    refine V_iconst X (v := (0 : Int32)) dX3_readUnit_19 (by decide) ?_
    refine V_aload_n X (i := 0) 1 dX3_readUnit_20 rfl rfl ?_
    refine G_3_15 X dX3_readUnit_21 ?_
    refine G_3_170 X dX3_readUnit_24 ?_
    refine V_aload_n X (i := 0) 1 dX3_readUnit_27 rfl rfl ?_
    refine G_3_19 X dX3_readUnit_28 ?_
    obtain ⟨g18, h⟩ := h
    refine V_iald_c X (rfl : SLq 6 = 401) (by decide) (rfl : SK 6 = 14) g18 dX3_readUnit_31 ?_
    refine K_2_add X (Or.inl q_736) hk1 h ⟨Nat.le_of_ble_eq_true rfl, Nat.le_of_ble_eq_true rfl⟩ ⟨Nat.zero_le _, Nat.zero_le _⟩ (st1 := []) (Nat.le_of_ble_eq_true rfl) dX3_readUnit_32 (fun w19 h => ?_)
    refine V_aload_n X (i := 0) 1 dX3_readUnit_35 rfl rfl ?_
    refine V_iconst X (v := (3 : Int32)) dX3_readUnit_36 (by decide) ?_
    refine K_3_takes X (Or.inl q_702) h ⟨Nat.le_of_ble_eq_true rfl, Nat.le_of_ble_eq_true rfl⟩ ⟨Nat.zero_le _, Nat.zero_le _⟩ (st1 := []) (Nat.le_of_ble_eq_true rfl) dX3_readUnit_37 (fun r21 w20 h => ?_)
    exact V_zret_c X hr dX3_readUnit_40 (bo_z h.1) h.2
theorem c_3_readUnit_q1  {k1 : Nat} {a2 : Int32} (hinj : INJ ad) (hk1 : isLaw k1) {w : Mem} {Q : Int32 → Mem → Prop} (h : wp_3_readUnit (wp_3_readSum 1) k1 a2 w Q) : Met l yX3_readUnit (TBq yX3_readUnit cX3_readUnit 4 (some .boolean)) (RM 6) (va_Pc [.ref (ad 7), .ref (ad k1), .int a2] (PB ad cy D (cmb w wm) wl0)) (va_Qi Q (BC ad cy D wm wl0) (AW ad)) 0 0 (AW ad) := M_enter (by decide) (Nat.le_of_ble_eq_true rfl) hinj (fun p e s m args below meth c X hr => v_3_readUnit_q1 X hr hk1 h)
theorem K_3_readUnit_q1 {own : String} {idx : Nat}  {k1 : Nat} {a2 : Int32} (X : CXq p s m args meth c cc nL own ad cy D A H0) (hL : LK own idx yX3_readUnit) (hk1 : isLaw k1) {w : Mem} {Q : Int32 → Mem → Prop} (h : wp_3_readUnit (wp_3_readSum 1) k1 a2 w Q) (hR : (RM 6).frames + 1 ≤ R.frames ∧ 8 + (4 + 11) + (RM 6).locals ≤ R.locals) (hce : ce ≤ R.cells ∧ sl ≤ R.slots) (hcat : (st1.map fun v => v.category).sum ≤ 8) (hd : decode cc pc = .ok (.invokevirtual idx, 3)) (kk : ∀ (r : Int32) (u : Mem), Q r u → V p l e R s m args below meth c nL ad cy D A H0 ce sl Qs u wm wl0 (pc + 3) ls (.int r :: st1)) : V p l e R s m args below meth c nL ad cy D A H0 ce sl Qs w wm wl0 pc ls (.int a2 :: .ref (ad k1) :: .ref (ad 7) :: st1) := V_callVI_c X mf_3_readUnit hL (rfl : vwCl[3]? = some (RX3, TX3, 9)) (by decide) (rfl : SK 7 = 3) (Nat.lt_of_lt_of_le (by decide : 7 < 150) (CX_nn X)) (c_3_readUnit_q1 X.2.2.2.2.2.2.2.1 hk1 h) (As := [.ref (ad k1), .int a2]) rfl ⟨rfl, rfl⟩ hR hce st1 rfl hcat hd kk
set_option maxRecDepth 20000 in
theorem v_3_readProduct_b93_q1 (X : CXq p s m args meth c cX3_readProduct 6 yX3_readProduct.cls ad cy D (AW ad) s.heap) (hr : meth.sig.returnType = (some .boolean))  {k1 : Nat} (hk1 : isLaw k1) {Q : Int32 → Mem → Prop} {L10 : Int32 → Int32 → Int32 → Mem → Prop} (HL10 : ∀ (l2 : Int32) (l3 : Int32) (l4 : Int32) (w : Mem), L10 l2 l3 l4 w → V p l e (RM 7) s m args below meth c 6 ad cy D (AW ad) s.heap 0 0 (MQ below (va_Qi Q (BC ad cy D wm wl0) (AW ad)) args s 0 0 (AW ad)) w wm wl0 10 [(0, .ref (ad 7)), (1, .ref (ad k1)), (2, .int l2), (3, .int l3), (4, .int l4)] []) : ∀ (l2 : Int32) (l4 : Int32) (l5 : Int32) (s0 : Int32) (w : Mem), wp_3_readProduct_b93 (wp_3_readSum 1) k1 Q L10 l2 l4 l5 s0 w → V p l e (RM 7) s m args below meth c 6 ad cy D (AW ad) s.heap 0 0 (MQ below (va_Qi Q (BC ad cy D wm wl0) (AW ad)) args s 0 0 (AW ad)) w wm wl0 93 [(0, .ref (ad 7)), (1, .ref (ad k1)), (2, .int l2), (4, .int l4), (5, .int l5)] [.int s0] := by
  intro l2 l4 l5 s0 w h
  unfold wp_3_readProduct_b93 at h
  refine V_istore_n X dX3_readProduct_93 rfl (by decide) rfl (ls1 := [(3, .int s0), (0, .ref (ad 7)), (1, .ref (ad k1)), (2, .int l2), (4, .int l4), (5, .int l5)]) rfl ?_
  refine V_aload_n X (i := 1) 2 dX3_readProduct_94 rfl rfl ?_
  refine V_iload X (i := 5) 5 dX3_readProduct_95 rfl ?_
  refine V_iconst X (v := (0 : Int32)) dX3_readProduct_97 (by decide) ?_
  refine K_2_add X (Or.inl q_736) hk1 h ⟨Nat.le_of_ble_eq_true rfl, Nat.le_of_ble_eq_true rfl⟩ ⟨Nat.zero_le _, Nat.zero_le _⟩ (st1 := []) (Nat.le_of_ble_eq_true rfl) dX3_readProduct_98 (fun w1 h => ?_)
  obtain ⟨x2, ex2⟩ : ∃ y : Int32, y = l4 + (1 : Int32) := ⟨_, rfl⟩
  have h := h x2 ex2
  refine V_iinc X 4 dX3_readProduct_101 rfl (by decide) (by rw [ex2]; rfl) (ls1 := [(4, .int x2), (3, .int s0), (0, .ref (ad 7)), (1, .ref (ad k1)), (2, .int l2), (5, .int l5)]) rfl ?_
  refine V_goto X (tgt := 10) dX3_readProduct_104 (by decide) ?_
  refine V_sub X (ls1 := [(0, .ref (ad 7)), (1, .ref (ad k1)), (2, .int l2), (3, .int s0), (4, .int x2)]) [2, 3, 4, 1, 0] rfl ?_
  exact HL10 _ _ _ _ h
set_option maxRecDepth 20000 in
theorem v_3_readProduct_b92_q1 (X : CXq p s m args meth c cX3_readProduct 6 yX3_readProduct.cls ad cy D (AW ad) s.heap) (hr : meth.sig.returnType = (some .boolean))  {k1 : Nat} (hk1 : isLaw k1) {Q : Int32 → Mem → Prop} {L10 : Int32 → Int32 → Int32 → Mem → Prop} (HL10 : ∀ (l2 : Int32) (l3 : Int32) (l4 : Int32) (w : Mem), L10 l2 l3 l4 w → V p l e (RM 7) s m args below meth c 6 ad cy D (AW ad) s.heap 0 0 (MQ below (va_Qi Q (BC ad cy D wm wl0) (AW ad)) args s 0 0 (AW ad)) w wm wl0 10 [(0, .ref (ad 7)), (1, .ref (ad k1)), (2, .int l2), (3, .int l3), (4, .int l4)] []) : ∀ (l2 : Int32) (l4 : Int32) (l5 : Int32) (w : Mem), wp_3_readProduct_b92 (wp_3_readSum 1) k1 Q L10 l2 l4 l5 w → V p l e (RM 7) s m args below meth c 6 ad cy D (AW ad) s.heap 0 0 (MQ below (va_Qi Q (BC ad cy D wm wl0) (AW ad)) args s 0 0 (AW ad)) w wm wl0 92 [(0, .ref (ad 7)), (1, .ref (ad k1)), (2, .int l2), (4, .int l4), (5, .int l5)] [] := by
  intro l2 l4 l5 w h
  unfold wp_3_readProduct_b92 at h
  refine V_iconst X (v := (0 : Int32)) dX3_readProduct_92 (by decide) ?_
  refine V_sub X (ls1 := [(0, .ref (ad 7)), (1, .ref (ad k1)), (2, .int l2), (4, .int l4), (5, .int l5)]) [0, 1, 2, 3, 4] rfl ?_
  exact v_3_readProduct_b93_q1 X hr hk1 HL10 _ _ _ _ _ h
set_option maxRecDepth 20000 in
theorem v_3_readProduct_b56_q1 (X : CXq p s m args meth c cX3_readProduct 6 yX3_readProduct.cls ad cy D (AW ad) s.heap) (hr : meth.sig.returnType = (some .boolean))  {k1 : Nat} (hk1 : isLaw k1) {Q : Int32 → Mem → Prop} {L10 : Int32 → Int32 → Int32 → Mem → Prop} (HL10 : ∀ (l2 : Int32) (l3 : Int32) (l4 : Int32) (w : Mem), L10 l2 l3 l4 w → V p l e (RM 7) s m args below meth c 6 ad cy D (AW ad) s.heap 0 0 (MQ below (va_Qi Q (BC ad cy D wm wl0) (AW ad)) args s 0 0 (AW ad)) w wm wl0 10 [(0, .ref (ad 7)), (1, .ref (ad k1)), (2, .int l2), (3, .int l3), (4, .int l4)] []) : ∀ (l2 : Int32) (l4 : Int32) (w : Mem), wp_3_readProduct_b56 (wp_3_readSum 1) k1 Q L10 l2 l4 w → V p l e (RM 7) s m args below meth c 6 ad cy D (AW ad) s.heap 0 0 (MQ below (va_Qi Q (BC ad cy D wm wl0) (AW ad)) args s 0 0 (AW ad)) w wm wl0 56 [(0, .ref (ad 7)), (1, .ref (ad k1)), (2, .int l2), (4, .int l4)] [] := by
  intro l2 l4 w h
  unfold wp_3_readProduct_b56 at h
  refine V_aload_n X (i := 0) 0 dX3_readProduct_56 rfl rfl ?_
  refine G_3_15 X dX3_readProduct_57 ?_
  refine G_3_45 X dX3_readProduct_60 ?_
  refine V_aload_n X (i := 0) 0 dX3_readProduct_63 rfl rfl ?_
  refine G_3_19 X dX3_readProduct_64 ?_
  obtain ⟨g1, h⟩ := h
  refine V_iald_c X (rfl : SLq 4 = 401) (by decide) (rfl : SK 4 = 14) g1 dX3_readProduct_67 ?_
  obtain ⟨x2, ex2⟩ : ∃ y : Int32, y = (w 4 (ix (w 7 3))) := ⟨_, rfl⟩
  have h := h x2 ex2
  refine V_istore X dX3_readProduct_68 (by decide) ex2 (ls1 := [(5, .int x2), (0, .ref (ad 7)), (1, .ref (ad k1)), (2, .int l2), (4, .int l4)]) rfl ?_
  refine V_aload_n X (i := 0) 1 dX3_readProduct_70 rfl rfl ?_
  refine V_iload X (i := 5) 0 dX3_readProduct_71 rfl ?_
  refine K_3_takes X (Or.inl q_702) h ⟨Nat.le_of_ble_eq_true rfl, Nat.le_of_ble_eq_true rfl⟩ ⟨Nat.zero_le _, Nat.zero_le _⟩ (st1 := []) (Nat.le_of_ble_eq_true rfl) dX3_readProduct_73 (fun r4 w3 h => ?_)
  obtain ⟨ht, hf⟩ := h
  refine V_if_eq X (tgt := 92) dX3_readProduct_76 (by decide) (fun c => ?_) (fun c => ?_)
  · have h := ht c
    refine V_sub X (ls1 := [(0, .ref (ad 7)), (1, .ref (ad k1)), (2, .int l2), (4, .int l4), (5, .int x2)]) [1, 2, 3, 4, 0] rfl ?_
    exact v_3_readProduct_b92_q1 X hr hk1 HL10 _ _ _ _ h
  · have h := hf c
    refine V_aload_n X (i := 0) 1 dX3_readProduct_79 rfl rfl ?_
    refine V_aload_n X (i := 1) 2 dX3_readProduct_80 rfl rfl ?_
    refine V_iload_n X (i := 2) 3 dX3_readProduct_81 rfl rfl ?_
    refine K_3_readUnit_q1 X (Or.inl q_732) hk1 h ⟨Nat.le_of_ble_eq_true rfl, Nat.le_of_ble_eq_true rfl⟩ ⟨Nat.zero_le _, Nat.zero_le _⟩ (st1 := []) (Nat.le_of_ble_eq_true rfl) dX3_readProduct_82 (fun r6 w5 h => ?_)
    obtain ⟨ht, hf⟩ := h
    refine V_if_eq X (tgt := 92) dX3_readProduct_85 (by decide) (fun c => ?_) (fun c => ?_)
    · have h := ht c
      refine V_sub X (ls1 := [(0, .ref (ad 7)), (1, .ref (ad k1)), (2, .int l2), (4, .int l4), (5, .int x2)]) [1, 2, 3, 4, 0] rfl ?_
      exact v_3_readProduct_b92_q1 X hr hk1 HL10 _ _ _ _ h
    · have h := hf c
      refine V_iconst X (v := (1 : Int32)) dX3_readProduct_88 (by decide) ?_
      refine V_goto X (tgt := 93) dX3_readProduct_89 (by decide) ?_
      refine V_sub X (ls1 := [(0, .ref (ad 7)), (1, .ref (ad k1)), (2, .int l2), (4, .int l4), (5, .int x2)]) [1, 2, 3, 4, 0] rfl ?_
      exact v_3_readProduct_b93_q1 X hr hk1 HL10 _ _ _ _ _ h
set_option maxRecDepth 20000 in
theorem v_3_readProduct_b10_q1 (X : CXq p s m args meth c cX3_readProduct 6 yX3_readProduct.cls ad cy D (AW ad) s.heap) (hr : meth.sig.returnType = (some .boolean))  {k1 : Nat} (hk1 : isLaw k1) {Q : Int32 → Mem → Prop} : ∀ (n : Nat) (l2 : Int32) (l3 : Int32) (l4 : Int32) (w : Mem), wp_3_readProduct_b10 (wp_3_readSum 1) k1 Q n l2 l3 l4 w → V p l e (RM 7) s m args below meth c 6 ad cy D (AW ad) s.heap 0 0 (MQ below (va_Qi Q (BC ad cy D wm wl0) (AW ad)) args s 0 0 (AW ad)) w wm wl0 10 [(0, .ref (ad 7)), (1, .ref (ad k1)), (2, .int l2), (3, .int l3), (4, .int l4)] [] := by
  intro n
  induction n with
  | zero =>
    intro l2 l3 l4 w h
    exact h.elim
  | succ n ih =>
    intro l2 l3 l4 w h
    unfold wp_3_readProduct_b10 at h
    refine V_iload X (i := 4) 4 dX3_readProduct_10 rfl ?_
    refine V_sipush X (v := (400 : Int32)) dX3_readProduct_12 (by decide) ?_
    obtain ⟨ht, hf⟩ := h
    refine V_icmp_ge X (tgt := 107) dX3_readProduct_15 (by decide) (fun c => ?_) (fun c => ?_)
    · have h := ht c
      refine V_iload_n X (i := 3) 3 dX3_readProduct_107 rfl rfl ?_
      exact V_zret_c X hr dX3_readProduct_108 (bo_z h.1) h.2
    · have h := hf c
      refine V_iload_n X (i := 3) 3 dX3_readProduct_18 rfl rfl ?_
      obtain ⟨ht, hf⟩ := h
      refine V_if_eq X (tgt := 107) dX3_readProduct_19 (by decide) (fun c => ?_) (fun c => ?_)
      · have h := ht c
        refine V_iload_n X (i := 3) 3 dX3_readProduct_107 rfl rfl ?_
        exact V_zret_c X hr dX3_readProduct_108 (bo_z h.1) h.2
      · have h := hf c
        refine V_aload_n X (i := 0) 0 dX3_readProduct_22 rfl rfl ?_
        refine G_3_15 X dX3_readProduct_23 ?_
        refine G_3_45 X dX3_readProduct_26 ?_
        refine V_aload_n X (i := 0) 0 dX3_readProduct_29 rfl rfl ?_
        refine G_3_19 X dX3_readProduct_30 ?_
        obtain ⟨g1, h⟩ := h
        refine V_iald_c X (rfl : SLq 4 = 401) (by decide) (rfl : SK 4 = 14) g1 dX3_readProduct_33 ?_
        refine V_bipush X (v := (42 : Int32)) dX3_readProduct_34 (by decide) ?_
        obtain ⟨ht, hf⟩ := h
        refine V_icmp_eq X (tgt := 56) dX3_readProduct_36 (by decide) (fun c => ?_) (fun c => ?_)
        · have h := ht c
          refine V_sub X (ls1 := [(0, .ref (ad 7)), (1, .ref (ad k1)), (2, .int l2), (4, .int l4)]) [0, 1, 2, 4] rfl ?_
          exact v_3_readProduct_b56_q1 X hr hk1 ih _ _ _ h
        · have h := hf c
          refine V_aload_n X (i := 0) 0 dX3_readProduct_39 rfl rfl ?_
          refine G_3_15 X dX3_readProduct_40 ?_
          refine G_3_45 X dX3_readProduct_43 ?_
          refine V_aload_n X (i := 0) 0 dX3_readProduct_46 rfl rfl ?_
          refine G_3_19 X dX3_readProduct_47 ?_
          obtain ⟨g2, h⟩ := h
          refine V_iald_c X (rfl : SLq 4 = 401) (by decide) (rfl : SK 4 = 14) g2 dX3_readProduct_50 ?_
          refine V_bipush X (v := (47 : Int32)) dX3_readProduct_51 (by decide) ?_
          obtain ⟨ht, hf⟩ := h
          refine V_icmp_ne X (tgt := 107) dX3_readProduct_53 (by decide) (fun c => ?_) (fun c => ?_)
          · have h := ht c
            refine V_iload_n X (i := 3) 3 dX3_readProduct_107 rfl rfl ?_
            exact V_zret_c X hr dX3_readProduct_108 (bo_z h.1) h.2
          · have h := hf c
            refine V_sub X (ls1 := [(0, .ref (ad 7)), (1, .ref (ad k1)), (2, .int l2), (4, .int l4)]) [0, 1, 2, 4] rfl ?_
            exact v_3_readProduct_b56_q1 X hr hk1 ih _ _ _ h
set_option maxRecDepth 20000 in
theorem v_3_readProduct_q1  {k1 : Nat} {a2 : Int32} (X : CXq p s m args meth c cX3_readProduct 6 yX3_readProduct.cls ad cy D (AW ad) s.heap) (hr : meth.sig.returnType = (some .boolean)) (hk1 : isLaw k1) {w : Mem} {Q : Int32 → Mem → Prop} (h : wp_3_readProduct (wp_3_readSum 1) k1 a2 w Q) : V p l e (RM 7) s m args below meth c 6 ad cy D (AW ad) s.heap 0 0 (MQ below (va_Qi Q (BC ad cy D wm wl0) (AW ad)) args s 0 0 (AW ad)) w wm wl0 0 [(0, .ref (ad 7)), (1, .ref (ad k1)), (2, .int a2)] [] := by
  unfold wp_3_readProduct at h
  refine V_aload_n X (i := 0) 0 dX3_readProduct_0 rfl rfl ?_
  refine V_aload_n X (i := 1) 1 dX3_readProduct_1 rfl rfl ?_
  refine V_iload_n X (i := 2) 2 dX3_readProduct_2 rfl rfl ?_
  refine K_3_readUnit_q1 X (Or.inl q_732) hk1 h ⟨Nat.le_of_ble_eq_true rfl, Nat.le_of_ble_eq_true rfl⟩ ⟨Nat.zero_le _, Nat.zero_le _⟩ (st1 := []) (Nat.le_of_ble_eq_true rfl) dX3_readProduct_3 (fun r2 w1 h => ?_)
  refine V_istore_n X dX3_readProduct_6 rfl (by decide) rfl (ls1 := [(3, .int r2), (0, .ref (ad 7)), (1, .ref (ad k1)), (2, .int a2)]) rfl ?_
  refine V_iconst X (v := (0 : Int32)) dX3_readProduct_7 (by decide) ?_
  refine V_istore X dX3_readProduct_8 (by decide) rfl (ls1 := [(4, .int (0 : Int32)), (3, .int r2), (0, .ref (ad 7)), (1, .ref (ad k1)), (2, .int a2)]) rfl ?_
  refine V_sub X (ls1 := [(0, .ref (ad 7)), (1, .ref (ad k1)), (2, .int a2), (3, .int r2), (4, .int (0 : Int32))]) [2, 3, 4, 1, 0] rfl ?_
  obtain ⟨nn, h⟩ := h
  exact v_3_readProduct_b10_q1 X hr hk1 nn _ _ _ _ h
theorem c_3_readProduct_q1  {k1 : Nat} {a2 : Int32} (hinj : INJ ad) (hk1 : isLaw k1) {w : Mem} {Q : Int32 → Mem → Prop} (h : wp_3_readProduct (wp_3_readSum 1) k1 a2 w Q) : Met l yX3_readProduct (TBq yX3_readProduct cX3_readProduct 6 (some .boolean)) (RM 7) (va_Pc [.ref (ad 7), .ref (ad k1), .int a2] (PB ad cy D (cmb w wm) wl0)) (va_Qi Q (BC ad cy D wm wl0) (AW ad)) 0 0 (AW ad) := M_enter (by decide) (Nat.le_of_ble_eq_true rfl) hinj (fun p e s m args below meth c X hr => v_3_readProduct_q1 X hr hk1 h)
theorem K_3_readProduct_q1 {own : String} {idx : Nat}  {k1 : Nat} {a2 : Int32} (X : CXq p s m args meth c cc nL own ad cy D A H0) (hL : LK own idx yX3_readProduct) (hk1 : isLaw k1) {w : Mem} {Q : Int32 → Mem → Prop} (h : wp_3_readProduct (wp_3_readSum 1) k1 a2 w Q) (hR : (RM 7).frames + 1 ≤ R.frames ∧ 8 + (6 + 11) + (RM 7).locals ≤ R.locals) (hce : ce ≤ R.cells ∧ sl ≤ R.slots) (hcat : (st1.map fun v => v.category).sum ≤ 8) (hd : decode cc pc = .ok (.invokevirtual idx, 3)) (kk : ∀ (r : Int32) (u : Mem), Q r u → V p l e R s m args below meth c nL ad cy D A H0 ce sl Qs u wm wl0 (pc + 3) ls (.int r :: st1)) : V p l e R s m args below meth c nL ad cy D A H0 ce sl Qs w wm wl0 pc ls (.int a2 :: .ref (ad k1) :: .ref (ad 7) :: st1) := V_callVI_c X mf_3_readProduct hL (rfl : vwCl[3]? = some (RX3, TX3, 9)) (by decide) (rfl : SK 7 = 3) (Nat.lt_of_lt_of_le (by decide : 7 < 150) (CX_nn X)) (c_3_readProduct_q1 X.2.2.2.2.2.2.2.1 hk1 h) (As := [.ref (ad k1), .int a2]) rfl ⟨rfl, rfl⟩ hR hce st1 rfl hcat hd kk
set_option maxRecDepth 20000 in
theorem v_3_readSumF_b107_q1 (X : CXq p s m args meth c cX3_readSum 6 yX3_readSum.cls ad cy D (AW ad) s.heap) (hr : meth.sig.returnType = (some .boolean))  {k1 : Nat} (hk1 : isLaw k1) {Q : Int32 → Mem → Prop} : ∀ (l2 : Int32) (l3 : Int32) (w : Mem), wp_3_readSumF_b107 (wp_3_readSum 1) k1 Q l2 l3 w → V p l e (RM 8) s m args below meth c 6 ad cy D (AW ad) s.heap 0 0 (MQ below (va_Qi Q (BC ad cy D wm wl0) (AW ad)) args s 0 0 (AW ad)) w wm wl0 107 [(1, .ref (ad k1)), (2, .int l2), (3, .int l3)] [] := by
  intro l2 l3 w h
  unfold wp_3_readSumF_b107 at h
  refine V_iload_n X (i := 2) 1 dX3_readSum_107 rfl rfl ?_
  obtain ⟨ht, hf⟩ := h
  refine V_if_ne X (tgt := 115) dX3_readSum_108 (by decide) (fun c => ?_) (fun c => ?_)
  · have h := ht c
    refine V_iload_n X (i := 3) 2 dX3_readSum_115 rfl rfl ?_
    exact V_zret_c X hr dX3_readSum_116 (bo_z h.1) h.2
  · have h := hf c
    refine V_aload_n X (i := 1) 0 dX3_readSum_111 rfl rfl ?_
    refine K_2_endPiece X (Or.inl q_737) hk1 h ⟨Nat.le_of_ble_eq_true rfl, Nat.le_of_ble_eq_true rfl⟩ ⟨Nat.zero_le _, Nat.zero_le _⟩ (st1 := []) (Nat.le_of_ble_eq_true rfl) dX3_readSum_112 (fun w1 h => ?_)
    refine V_iload_n X (i := 3) 2 dX3_readSum_115 rfl rfl ?_
    exact V_zret_c X hr dX3_readSum_116 (bo_z h.1) h.2
set_option maxRecDepth 20000 in
theorem v_3_readSumF_b93_q1 (X : CXq p s m args meth c cX3_readSum 6 yX3_readSum.cls ad cy D (AW ad) s.heap) (hr : meth.sig.returnType = (some .boolean))  {k1 : Nat} (hk1 : isLaw k1) {Q : Int32 → Mem → Prop} {L10 : Int32 → Int32 → Int32 → Mem → Prop} (HL10 : ∀ (l2 : Int32) (l3 : Int32) (l4 : Int32) (w : Mem), L10 l2 l3 l4 w → V p l e (RM 8) s m args below meth c 6 ad cy D (AW ad) s.heap 0 0 (MQ below (va_Qi Q (BC ad cy D wm wl0) (AW ad)) args s 0 0 (AW ad)) w wm wl0 10 [(0, .ref (ad 7)), (1, .ref (ad k1)), (2, .int l2), (3, .int l3), (4, .int l4)] []) : ∀ (l2 : Int32) (l4 : Int32) (l5 : Int32) (s0 : Int32) (w : Mem), wp_3_readSumF_b93 (wp_3_readSum 1) k1 Q L10 l2 l4 l5 s0 w → V p l e (RM 8) s m args below meth c 6 ad cy D (AW ad) s.heap 0 0 (MQ below (va_Qi Q (BC ad cy D wm wl0) (AW ad)) args s 0 0 (AW ad)) w wm wl0 93 [(0, .ref (ad 7)), (1, .ref (ad k1)), (2, .int l2), (4, .int l4), (5, .int l5)] [.int s0] := by
  intro l2 l4 l5 s0 w h
  unfold wp_3_readSumF_b93 at h
  refine V_istore_n X dX3_readSum_93 rfl (by decide) rfl (ls1 := [(3, .int s0), (0, .ref (ad 7)), (1, .ref (ad k1)), (2, .int l2), (4, .int l4), (5, .int l5)]) rfl ?_
  refine V_aload_n X (i := 1) 2 dX3_readSum_94 rfl rfl ?_
  refine V_iload X (i := 5) 5 dX3_readSum_95 rfl ?_
  refine V_iconst X (v := (0 : Int32)) dX3_readSum_97 (by decide) ?_
  refine K_2_add X (Or.inl q_736) hk1 h ⟨Nat.le_of_ble_eq_true rfl, Nat.le_of_ble_eq_true rfl⟩ ⟨Nat.zero_le _, Nat.zero_le _⟩ (st1 := []) (Nat.le_of_ble_eq_true rfl) dX3_readSum_98 (fun w1 h => ?_)
  obtain ⟨x2, ex2⟩ : ∃ y : Int32, y = l4 + (1 : Int32) := ⟨_, rfl⟩
  have h := h x2 ex2
  refine V_iinc X 4 dX3_readSum_101 rfl (by decide) (by rw [ex2]; rfl) (ls1 := [(4, .int x2), (3, .int s0), (0, .ref (ad 7)), (1, .ref (ad k1)), (2, .int l2), (5, .int l5)]) rfl ?_
  refine V_goto X (tgt := 10) dX3_readSum_104 (by decide) ?_
  refine V_sub X (ls1 := [(0, .ref (ad 7)), (1, .ref (ad k1)), (2, .int l2), (3, .int s0), (4, .int x2)]) [2, 3, 4, 1, 0] rfl ?_
  exact HL10 _ _ _ _ h
set_option maxRecDepth 20000 in
theorem v_3_readSumF_b92_q1 (X : CXq p s m args meth c cX3_readSum 6 yX3_readSum.cls ad cy D (AW ad) s.heap) (hr : meth.sig.returnType = (some .boolean))  {k1 : Nat} (hk1 : isLaw k1) {Q : Int32 → Mem → Prop} {L10 : Int32 → Int32 → Int32 → Mem → Prop} (HL10 : ∀ (l2 : Int32) (l3 : Int32) (l4 : Int32) (w : Mem), L10 l2 l3 l4 w → V p l e (RM 8) s m args below meth c 6 ad cy D (AW ad) s.heap 0 0 (MQ below (va_Qi Q (BC ad cy D wm wl0) (AW ad)) args s 0 0 (AW ad)) w wm wl0 10 [(0, .ref (ad 7)), (1, .ref (ad k1)), (2, .int l2), (3, .int l3), (4, .int l4)] []) : ∀ (l2 : Int32) (l4 : Int32) (l5 : Int32) (w : Mem), wp_3_readSumF_b92 (wp_3_readSum 1) k1 Q L10 l2 l4 l5 w → V p l e (RM 8) s m args below meth c 6 ad cy D (AW ad) s.heap 0 0 (MQ below (va_Qi Q (BC ad cy D wm wl0) (AW ad)) args s 0 0 (AW ad)) w wm wl0 92 [(0, .ref (ad 7)), (1, .ref (ad k1)), (2, .int l2), (4, .int l4), (5, .int l5)] [] := by
  intro l2 l4 l5 w h
  unfold wp_3_readSumF_b92 at h
  refine V_iconst X (v := (0 : Int32)) dX3_readSum_92 (by decide) ?_
  refine V_sub X (ls1 := [(0, .ref (ad 7)), (1, .ref (ad k1)), (2, .int l2), (4, .int l4), (5, .int l5)]) [0, 1, 2, 3, 4] rfl ?_
  exact v_3_readSumF_b93_q1 X hr hk1 HL10 _ _ _ _ _ h
set_option maxRecDepth 20000 in
theorem v_3_readSumF_b56_q1 (X : CXq p s m args meth c cX3_readSum 6 yX3_readSum.cls ad cy D (AW ad) s.heap) (hr : meth.sig.returnType = (some .boolean))  {k1 : Nat} (hk1 : isLaw k1) {Q : Int32 → Mem → Prop} {L10 : Int32 → Int32 → Int32 → Mem → Prop} (HL10 : ∀ (l2 : Int32) (l3 : Int32) (l4 : Int32) (w : Mem), L10 l2 l3 l4 w → V p l e (RM 8) s m args below meth c 6 ad cy D (AW ad) s.heap 0 0 (MQ below (va_Qi Q (BC ad cy D wm wl0) (AW ad)) args s 0 0 (AW ad)) w wm wl0 10 [(0, .ref (ad 7)), (1, .ref (ad k1)), (2, .int l2), (3, .int l3), (4, .int l4)] []) : ∀ (l2 : Int32) (l4 : Int32) (w : Mem), wp_3_readSumF_b56 (wp_3_readSum 1) k1 Q L10 l2 l4 w → V p l e (RM 8) s m args below meth c 6 ad cy D (AW ad) s.heap 0 0 (MQ below (va_Qi Q (BC ad cy D wm wl0) (AW ad)) args s 0 0 (AW ad)) w wm wl0 56 [(0, .ref (ad 7)), (1, .ref (ad k1)), (2, .int l2), (4, .int l4)] [] := by
  intro l2 l4 w h
  unfold wp_3_readSumF_b56 at h
  refine V_aload_n X (i := 0) 0 dX3_readSum_56 rfl rfl ?_
  refine G_3_15 X dX3_readSum_57 ?_
  refine G_3_45 X dX3_readSum_60 ?_
  refine V_aload_n X (i := 0) 0 dX3_readSum_63 rfl rfl ?_
  refine G_3_19 X dX3_readSum_64 ?_
  obtain ⟨g1, h⟩ := h
  refine V_iald_c X (rfl : SLq 4 = 401) (by decide) (rfl : SK 4 = 14) g1 dX3_readSum_67 ?_
  obtain ⟨x2, ex2⟩ : ∃ y : Int32, y = (w 4 (ix (w 7 3))) := ⟨_, rfl⟩
  have h := h x2 ex2
  refine V_istore X dX3_readSum_68 (by decide) ex2 (ls1 := [(5, .int x2), (0, .ref (ad 7)), (1, .ref (ad k1)), (2, .int l2), (4, .int l4)]) rfl ?_
  refine V_aload_n X (i := 0) 1 dX3_readSum_70 rfl rfl ?_
  refine V_iload X (i := 5) 0 dX3_readSum_71 rfl ?_
  refine K_3_takes X (Or.inl q_702) h ⟨Nat.le_of_ble_eq_true rfl, Nat.le_of_ble_eq_true rfl⟩ ⟨Nat.zero_le _, Nat.zero_le _⟩ (st1 := []) (Nat.le_of_ble_eq_true rfl) dX3_readSum_73 (fun r4 w3 h => ?_)
  obtain ⟨ht, hf⟩ := h
  refine V_if_eq X (tgt := 92) dX3_readSum_76 (by decide) (fun c => ?_) (fun c => ?_)
  · have h := ht c
    refine V_sub X (ls1 := [(0, .ref (ad 7)), (1, .ref (ad k1)), (2, .int l2), (4, .int l4), (5, .int x2)]) [1, 2, 3, 4, 0] rfl ?_
    exact v_3_readSumF_b92_q1 X hr hk1 HL10 _ _ _ _ h
  · have h := hf c
    refine V_aload_n X (i := 0) 1 dX3_readSum_79 rfl rfl ?_
    refine V_aload_n X (i := 1) 2 dX3_readSum_80 rfl rfl ?_
    refine V_iload_n X (i := 2) 3 dX3_readSum_81 rfl rfl ?_
    refine K_3_readProduct_q1 X (Or.inl q_728) hk1 h ⟨Nat.le_of_ble_eq_true rfl, Nat.le_of_ble_eq_true rfl⟩ ⟨Nat.zero_le _, Nat.zero_le _⟩ (st1 := []) (Nat.le_of_ble_eq_true rfl) dX3_readSum_82 (fun r6 w5 h => ?_)
    obtain ⟨ht, hf⟩ := h
    refine V_if_eq X (tgt := 92) dX3_readSum_85 (by decide) (fun c => ?_) (fun c => ?_)
    · have h := ht c
      refine V_sub X (ls1 := [(0, .ref (ad 7)), (1, .ref (ad k1)), (2, .int l2), (4, .int l4), (5, .int x2)]) [1, 2, 3, 4, 0] rfl ?_
      exact v_3_readSumF_b92_q1 X hr hk1 HL10 _ _ _ _ h
    · have h := hf c
      refine V_iconst X (v := (1 : Int32)) dX3_readSum_88 (by decide) ?_
      refine V_goto X (tgt := 93) dX3_readSum_89 (by decide) ?_
      refine V_sub X (ls1 := [(0, .ref (ad 7)), (1, .ref (ad k1)), (2, .int l2), (4, .int l4), (5, .int x2)]) [1, 2, 3, 4, 0] rfl ?_
      exact v_3_readSumF_b93_q1 X hr hk1 HL10 _ _ _ _ _ h
set_option maxRecDepth 20000 in
theorem v_3_readSumF_b10_q1 (X : CXq p s m args meth c cX3_readSum 6 yX3_readSum.cls ad cy D (AW ad) s.heap) (hr : meth.sig.returnType = (some .boolean))  {k1 : Nat} (hk1 : isLaw k1) {Q : Int32 → Mem → Prop} : ∀ (n : Nat) (l2 : Int32) (l3 : Int32) (l4 : Int32) (w : Mem), wp_3_readSumF_b10 (wp_3_readSum 1) k1 Q n l2 l3 l4 w → V p l e (RM 8) s m args below meth c 6 ad cy D (AW ad) s.heap 0 0 (MQ below (va_Qi Q (BC ad cy D wm wl0) (AW ad)) args s 0 0 (AW ad)) w wm wl0 10 [(0, .ref (ad 7)), (1, .ref (ad k1)), (2, .int l2), (3, .int l3), (4, .int l4)] [] := by
  intro n
  induction n with
  | zero =>
    intro l2 l3 l4 w h
    exact h.elim
  | succ n ih =>
    intro l2 l3 l4 w h
    unfold wp_3_readSumF_b10 at h
    refine V_iload X (i := 4) 4 dX3_readSum_10 rfl ?_
    refine V_sipush X (v := (400 : Int32)) dX3_readSum_12 (by decide) ?_
    obtain ⟨ht, hf⟩ := h
    refine V_icmp_ge X (tgt := 107) dX3_readSum_15 (by decide) (fun c => ?_) (fun c => ?_)
    · have h := ht c
      refine V_sub X (ls1 := [(1, .ref (ad k1)), (2, .int l2), (3, .int l3)]) [1, 2, 3] rfl ?_
      exact v_3_readSumF_b107_q1 X hr hk1 _ _ _ h
    · have h := hf c
      refine V_iload_n X (i := 3) 3 dX3_readSum_18 rfl rfl ?_
      obtain ⟨ht, hf⟩ := h
      refine V_if_eq X (tgt := 107) dX3_readSum_19 (by decide) (fun c => ?_) (fun c => ?_)
      · have h := ht c
        refine V_sub X (ls1 := [(1, .ref (ad k1)), (2, .int l2), (3, .int l3)]) [1, 2, 3] rfl ?_
        exact v_3_readSumF_b107_q1 X hr hk1 _ _ _ h
      · have h := hf c
        refine V_aload_n X (i := 0) 0 dX3_readSum_22 rfl rfl ?_
        refine G_3_15 X dX3_readSum_23 ?_
        refine G_3_45 X dX3_readSum_26 ?_
        refine V_aload_n X (i := 0) 0 dX3_readSum_29 rfl rfl ?_
        refine G_3_19 X dX3_readSum_30 ?_
        obtain ⟨g1, h⟩ := h
        refine V_iald_c X (rfl : SLq 4 = 401) (by decide) (rfl : SK 4 = 14) g1 dX3_readSum_33 ?_
        refine V_bipush X (v := (43 : Int32)) dX3_readSum_34 (by decide) ?_
        obtain ⟨ht, hf⟩ := h
        refine V_icmp_eq X (tgt := 56) dX3_readSum_36 (by decide) (fun c => ?_) (fun c => ?_)
        · have h := ht c
          refine V_sub X (ls1 := [(0, .ref (ad 7)), (1, .ref (ad k1)), (2, .int l2), (4, .int l4)]) [0, 1, 2, 4] rfl ?_
          exact v_3_readSumF_b56_q1 X hr hk1 ih _ _ _ h
        · have h := hf c
          refine V_aload_n X (i := 0) 0 dX3_readSum_39 rfl rfl ?_
          refine G_3_15 X dX3_readSum_40 ?_
          refine G_3_45 X dX3_readSum_43 ?_
          refine V_aload_n X (i := 0) 0 dX3_readSum_46 rfl rfl ?_
          refine G_3_19 X dX3_readSum_47 ?_
          obtain ⟨g2, h⟩ := h
          refine V_iald_c X (rfl : SLq 4 = 401) (by decide) (rfl : SK 4 = 14) g2 dX3_readSum_50 ?_
          refine V_bipush X (v := (45 : Int32)) dX3_readSum_51 (by decide) ?_
          obtain ⟨ht, hf⟩ := h
          refine V_icmp_ne X (tgt := 107) dX3_readSum_53 (by decide) (fun c => ?_) (fun c => ?_)
          · have h := ht c
            refine V_sub X (ls1 := [(1, .ref (ad k1)), (2, .int l2), (3, .int l3)]) [1, 2, 3] rfl ?_
            exact v_3_readSumF_b107_q1 X hr hk1 _ _ _ h
          · have h := hf c
            refine V_sub X (ls1 := [(0, .ref (ad 7)), (1, .ref (ad k1)), (2, .int l2), (4, .int l4)]) [0, 1, 2, 4] rfl ?_
            exact v_3_readSumF_b56_q1 X hr hk1 ih _ _ _ h
set_option maxRecDepth 20000 in
theorem v_3_readSumF_q1  {k1 : Nat} {a2 : Int32} (X : CXq p s m args meth c cX3_readSum 6 yX3_readSum.cls ad cy D (AW ad) s.heap) (hr : meth.sig.returnType = (some .boolean)) (hk1 : isLaw k1) {w : Mem} {Q : Int32 → Mem → Prop} (h : wp_3_readSumF (wp_3_readSum 1) k1 a2 w Q) : V p l e (RM 8) s m args below meth c 6 ad cy D (AW ad) s.heap 0 0 (MQ below (va_Qi Q (BC ad cy D wm wl0) (AW ad)) args s 0 0 (AW ad)) w wm wl0 0 [(0, .ref (ad 7)), (1, .ref (ad k1)), (2, .int a2)] [] := by
  unfold wp_3_readSumF at h
  refine V_aload_n X (i := 0) 0 dX3_readSum_0 rfl rfl ?_
  refine V_aload_n X (i := 1) 1 dX3_readSum_1 rfl rfl ?_
  refine V_iload_n X (i := 2) 2 dX3_readSum_2 rfl rfl ?_
  refine K_3_readProduct_q1 X (Or.inl q_728) hk1 h ⟨Nat.le_of_ble_eq_true rfl, Nat.le_of_ble_eq_true rfl⟩ ⟨Nat.zero_le _, Nat.zero_le _⟩ (st1 := []) (Nat.le_of_ble_eq_true rfl) dX3_readSum_3 (fun r2 w1 h => ?_)
  refine V_istore_n X dX3_readSum_6 rfl (by decide) rfl (ls1 := [(3, .int r2), (0, .ref (ad 7)), (1, .ref (ad k1)), (2, .int a2)]) rfl ?_
  refine V_iconst X (v := (0 : Int32)) dX3_readSum_7 (by decide) ?_
  refine V_istore X dX3_readSum_8 (by decide) rfl (ls1 := [(4, .int (0 : Int32)), (3, .int r2), (0, .ref (ad 7)), (1, .ref (ad k1)), (2, .int a2)]) rfl ?_
  refine V_sub X (ls1 := [(0, .ref (ad 7)), (1, .ref (ad k1)), (2, .int a2), (3, .int r2), (4, .int (0 : Int32))]) [2, 3, 4, 1, 0] rfl ?_
  obtain ⟨nn, h⟩ := h
  exact v_3_readSumF_b10_q1 X hr hk1 nn _ _ _ _ h
theorem c_3_readSumF_q1  {k1 : Nat} {a2 : Int32} (hinj : INJ ad) (hk1 : isLaw k1) {w : Mem} {Q : Int32 → Mem → Prop} (h : wp_3_readSumF (wp_3_readSum 1) k1 a2 w Q) : Met l yX3_readSum (TBq yX3_readSum cX3_readSum 6 (some .boolean)) (RM 8) (va_Pc [.ref (ad 7), .ref (ad k1), .int a2] (PB ad cy D (cmb w wm) wl0)) (va_Qi Q (BC ad cy D wm wl0) (AW ad)) 0 0 (AW ad) := M_enter (by decide) (Nat.le_of_ble_eq_true rfl) hinj (fun p e s m args below meth c X hr => v_3_readSumF_q1 X hr hk1 h)
theorem K_3_readSumF_q1 {own : String} {idx : Nat}  {k1 : Nat} {a2 : Int32} (X : CXq p s m args meth c cc nL own ad cy D A H0) (hL : LK own idx yX3_readSum) (hk1 : isLaw k1) {w : Mem} {Q : Int32 → Mem → Prop} (h : wp_3_readSumF (wp_3_readSum 1) k1 a2 w Q) (hR : (RM 8).frames + 1 ≤ R.frames ∧ 8 + (6 + 11) + (RM 8).locals ≤ R.locals) (hce : ce ≤ R.cells ∧ sl ≤ R.slots) (hcat : (st1.map fun v => v.category).sum ≤ 8) (hd : decode cc pc = .ok (.invokevirtual idx, 3)) (kk : ∀ (r : Int32) (u : Mem), Q r u → V p l e R s m args below meth c nL ad cy D A H0 ce sl Qs u wm wl0 (pc + 3) ls (.int r :: st1)) : V p l e R s m args below meth c nL ad cy D A H0 ce sl Qs w wm wl0 pc ls (.int a2 :: .ref (ad k1) :: .ref (ad 7) :: st1) := V_callVI_c X mf_3_readSumF hL (rfl : vwCl[3]? = some (RX3, TX3, 9)) (by decide) (rfl : SK 7 = 3) (Nat.lt_of_lt_of_le (by decide : 7 < 150) (CX_nn X)) (c_3_readSumF_q1 X.2.2.2.2.2.2.2.1 hk1 h) (As := [.ref (ad k1), .int a2]) rfl ⟨rfl, rfl⟩ hR hce st1 rfl hcat hd kk
theorem K_3_readSum_2 {own : String} {idx : Nat}  {k1 : Nat} {a2 : Int32} (X : CXq p s m args meth c cc nL own ad cy D A H0) (hL : LK own idx yX3_readSum) (hk1 : isLaw k1) {w : Mem} {Q : Int32 → Mem → Prop} (h : wp_3_readSum 2 k1 a2 w Q) (hR : (RM 8).frames + 1 ≤ R.frames ∧ 8 + (6 + 11) + (RM 8).locals ≤ R.locals) (hce : ce ≤ R.cells ∧ sl ≤ R.slots) (hcat : (st1.map fun v => v.category).sum ≤ 8) (hd : decode cc pc = .ok (.invokevirtual idx, 3)) (kk : ∀ (r : Int32) (u : Mem), Q r u → V p l e R s m args below meth c nL ad cy D A H0 ce sl Qs u wm wl0 (pc + 3) ls (.int r :: st1)) : V p l e R s m args below meth c nL ad cy D A H0 ce sl Qs w wm wl0 pc ls (.int a2 :: .ref (ad k1) :: .ref (ad 7) :: st1) := K_3_readSumF_q1 X hL hk1 h hR hce hcat hd kk
set_option maxRecDepth 20000 in
theorem v_3_readUnit_b127_q2 (X : CXq p s m args meth c cX3_readUnit 4 yX3_readUnit.cls ad cy D (AW ad) s.heap) (hr : meth.sig.returnType = (some .boolean))  {k1 : Nat} (hk1 : isLaw k1) {Q : Int32 → Mem → Prop} : ∀ (w : Mem), wp_3_readUnit_b127 (wp_3_readSum 2) k1 Q w → V p l e (RM 9) s m args below meth c 4 ad cy D (AW ad) s.heap 0 0 (MQ below (va_Qi Q (BC ad cy D wm wl0) (AW ad)) args s 0 0 (AW ad)) w wm wl0 127 [] [] := by
  intro w h
  unfold wp_3_readUnit_b127 at h
  refine V_iconst X (v := (0 : Int32)) dX3_readUnit_127 (by decide) ?_
  exact V_zret_c X hr dX3_readUnit_128 rfl h
set_option maxRecDepth 20000 in
theorem v_3_readUnit_q2  {k1 : Nat} {a2 : Int32} (X : CXq p s m args meth c cX3_readUnit 4 yX3_readUnit.cls ad cy D (AW ad) s.heap) (hr : meth.sig.returnType = (some .boolean)) (hk1 : isLaw k1) {w : Mem} {Q : Int32 → Mem → Prop} (h : wp_3_readUnit (wp_3_readSum 2) k1 a2 w Q) : V p l e (RM 9) s m args below meth c 4 ad cy D (AW ad) s.heap 0 0 (MQ below (va_Qi Q (BC ad cy D wm wl0) (AW ad)) args s 0 0 (AW ad)) w wm wl0 0 [(0, .ref (ad 7)), (1, .ref (ad k1)), (2, .int a2)] [] := by
  unfold wp_3_readUnit at h
  refine V_aload_n X (i := 0) 0 dX3_readUnit_0 rfl rfl ?_
  refine G_3_15 X dX3_readUnit_1 ?_
  refine G_3_45 X dX3_readUnit_4 ?_
  refine V_aload_n X (i := 0) 0 dX3_readUnit_7 rfl rfl ?_
  refine G_3_19 X dX3_readUnit_8 ?_
  obtain ⟨g1, h⟩ := h
  refine V_iald_c X (rfl : SLq 4 = 401) (by decide) (rfl : SK 4 = 14) g1 dX3_readUnit_11 ?_
  obtain ⟨x2, ex2⟩ : ∃ y : Int32, y = (w 4 (ix (w 7 3))) := ⟨_, rfl⟩
  have h := h x2 ex2
  refine V_istore_n X dX3_readUnit_12 rfl (by decide) ex2 (ls1 := [(3, .int x2), (0, .ref (ad 7)), (1, .ref (ad k1)), (2, .int a2)]) rfl ?_
  refine V_iload_n X (i := 3) 0 dX3_readUnit_13 rfl rfl ?_
  refine V_iconst X (v := (3 : Int32)) dX3_readUnit_14 (by decide) ?_
  obtain ⟨ht, hf⟩ := h
  refine V_icmp_ne X (tgt := 41) dX3_readUnit_15 (by decide) (fun c => ?_) (fun c => ?_)
  · have h := ht c
    refine V_iload_n X (i := 3) 0 dX3_readUnit_41 rfl rfl ?_
    refine V_sipush X (v := (146 : Int32)) dX3_readUnit_42 (by decide) ?_
    refine V_sipush X (v := (156 : Int32)) dX3_readUnit_45 (by decide) ?_
    refine K_11_within X (Or.inr ⟨_, q_714⟩) h ⟨Nat.le_of_ble_eq_true rfl, Nat.le_of_ble_eq_true rfl⟩ ⟨Nat.zero_le _, Nat.zero_le _⟩ (st1 := []) (Nat.le_of_ble_eq_true rfl) dX3_readUnit_48 (fun r4 w3 h => ?_)
    obtain ⟨ht, hf⟩ := h
    refine V_if_eq X (tgt := 70) dX3_readUnit_51 (by decide) (fun c => ?_) (fun c => ?_)
    · have h := ht c
      refine V_iload_n X (i := 3) 0 dX3_readUnit_70 rfl rfl ?_
      refine V_bipush X (v := (40 : Int32)) dX3_readUnit_71 (by decide) ?_
      obtain ⟨ht, hf⟩ := h
      refine V_icmp_eq X (tgt := 82) dX3_readUnit_73 (by decide) (fun c => ?_) (fun c => ?_)
      · have h := ht c
        refine V_iload_n X (i := 2) 3 dX3_readUnit_82 rfl rfl ?_
        refine V_bipush X (v := (6 : Int32)) dX3_readUnit_83 (by decide) ?_
        obtain ⟨ht, hf⟩ := h
        refine V_icmp_lt X (tgt := 94) dX3_readUnit_85 (by decide) (fun c => ?_) (fun c => ?_)
        · have h := ht c
          refine V_aload_n X (i := 0) 1 dX3_readUnit_94 rfl rfl ?_
          refine V_bipush X (v := (40 : Int32)) dX3_readUnit_95 (by decide) ?_
          refine K_3_takes X (Or.inl q_702) h ⟨Nat.le_of_ble_eq_true rfl, Nat.le_of_ble_eq_true rfl⟩ ⟨Nat.zero_le _, Nat.zero_le _⟩ (st1 := []) (Nat.le_of_ble_eq_true rfl) dX3_readUnit_97 (fun r6 w5 h => ?_)
          obtain ⟨ht, hf⟩ := h
          refine V_if_eq X (tgt := 127) dX3_readUnit_100 (by decide) (fun c => ?_) (fun c => ?_)
          · have h := ht c
            refine V_sub X (ls1 := []) [] rfl ?_
            exact v_3_readUnit_b127_q2 X hr hk1 _ h
          · have h := hf c
            refine V_aload_n X (i := 0) 1 dX3_readUnit_103 rfl rfl ?_
            refine V_aload_n X (i := 1) 2 dX3_readUnit_104 rfl rfl ?_
            refine V_iload_n X (i := 2) 3 dX3_readUnit_105 rfl rfl ?_
            refine V_iconst X (v := (1 : Int32)) dX3_readUnit_106 (by decide) ?_
            refine V_iadd X dX3_readUnit_107 ?_
            refine K_3_readSum_2 X (Or.inl q_724) hk1 h ⟨Nat.le_of_ble_eq_true rfl, Nat.le_of_ble_eq_true rfl⟩ ⟨Nat.zero_le _, Nat.zero_le _⟩ (st1 := []) (Nat.le_of_ble_eq_true rfl) dX3_readUnit_108 (fun r8 w7 h => ?_)
            obtain ⟨ht, hf⟩ := h
            refine V_if_eq X (tgt := 127) dX3_readUnit_111 (by decide) (fun c => ?_) (fun c => ?_)
            · have h := ht c
              refine V_sub X (ls1 := []) [] rfl ?_
              exact v_3_readUnit_b127_q2 X hr hk1 _ h
            · have h := hf c
              refine V_aload_n X (i := 0) 1 dX3_readUnit_114 rfl rfl ?_
              refine V_bipush X (v := (41 : Int32)) dX3_readUnit_115 (by decide) ?_
              refine K_3_takes X (Or.inl q_702) h ⟨Nat.le_of_ble_eq_true rfl, Nat.le_of_ble_eq_true rfl⟩ ⟨Nat.zero_le _, Nat.zero_le _⟩ (st1 := []) (Nat.le_of_ble_eq_true rfl) dX3_readUnit_117 (fun r10 w9 h => ?_)
              obtain ⟨ht, hf⟩ := h
              refine V_if_eq X (tgt := 127) dX3_readUnit_120 (by decide) (fun c => ?_) (fun c => ?_)
              · have h := ht c
                refine V_sub X (ls1 := []) [] rfl ?_
                exact v_3_readUnit_b127_q2 X hr hk1 _ h
              · have h := hf c
                refine V_iconst X (v := (1 : Int32)) dX3_readUnit_123 (by decide) ?_
                refine V_goto X (tgt := 128) dX3_readUnit_124 (by decide) ?_
                exact V_zret_c X hr dX3_readUnit_128 rfl h
        · have h := hf c
          refine V_aload_n X (i := 0) 1 dX3_readUnit_88 rfl rfl ?_
          refine V_iconst X (v := (2 : Int32)) dX3_readUnit_89 (by decide) ?_
          refine K_3_fails X (Or.inl q_694) h ⟨Nat.le_of_ble_eq_true rfl, Nat.le_of_ble_eq_true rfl⟩ ⟨Nat.zero_le _, Nat.zero_le _⟩ (st1 := []) (Nat.le_of_ble_eq_true rfl) dX3_readUnit_90 (fun r12 w11 h => ?_)
          exact V_zret_c X hr dX3_readUnit_93 (bo_z h.1) h.2
      · have h := hf c
        refine V_aload_n X (i := 0) 1 dX3_readUnit_76 rfl rfl ?_
        refine V_iconst X (v := (1 : Int32)) dX3_readUnit_77 (by decide) ?_
        refine K_3_fails X (Or.inl q_694) h ⟨Nat.le_of_ble_eq_true rfl, Nat.le_of_ble_eq_true rfl⟩ ⟨Nat.zero_le _, Nat.zero_le _⟩ (st1 := []) (Nat.le_of_ble_eq_true rfl) dX3_readUnit_78 (fun r14 w13 h => ?_)
        exact V_zret_c X hr dX3_readUnit_81 (bo_z h.1) h.2
    · have h := hf c
      refine V_aload_n X (i := 1) 2 dX3_readUnit_54 rfl rfl ?_
      refine V_iconst X (v := (1 : Int32)) dX3_readUnit_55 (by decide) ?_
      refine V_iload_n X (i := 3) 0 dX3_readUnit_56 rfl rfl ?_
      refine V_sipush X (v := (146 : Int32)) dX3_readUnit_57 (by decide) ?_
      refine V_isub X dX3_readUnit_60 ?_
      refine K_2_add X (Or.inl q_736) hk1 h ⟨Nat.le_of_ble_eq_true rfl, Nat.le_of_ble_eq_true rfl⟩ ⟨Nat.zero_le _, Nat.zero_le _⟩ (st1 := []) (Nat.le_of_ble_eq_true rfl) dX3_readUnit_61 (fun w15 h => ?_)
      refine V_aload_n X (i := 0) 1 dX3_readUnit_64 rfl rfl ?_
      refine V_iload_n X (i := 3) 0 dX3_readUnit_65 rfl rfl ?_
      refine K_3_takes X (Or.inl q_702) h ⟨Nat.le_of_ble_eq_true rfl, Nat.le_of_ble_eq_true rfl⟩ ⟨Nat.zero_le _, Nat.zero_le _⟩ (st1 := []) (Nat.le_of_ble_eq_true rfl) dX3_readUnit_66 (fun r17 w16 h => ?_)
      exact V_zret_c X hr dX3_readUnit_69 (bo_z h.1) h.2
  · have h := hf c
    refine V_aload_n X (i := 1) 2 dX3_readUnit_18 rfl rfl ?_
    refine V_iconst X (v := (0 : Int32)) dX3_readUnit_19 (by decide) ?_
    refine V_aload_n X (i := 0) 1 dX3_readUnit_20 rfl rfl ?_
    refine G_3_15 X dX3_readUnit_21 ?_
    refine G_3_170 X dX3_readUnit_24 ?_
    refine V_aload_n X (i := 0) 1 dX3_readUnit_27 rfl rfl ?_
    refine G_3_19 X dX3_readUnit_28 ?_
    obtain ⟨g18, h⟩ := h
    refine V_iald_c X (rfl : SLq 6 = 401) (by decide) (rfl : SK 6 = 14) g18 dX3_readUnit_31 ?_
    refine K_2_add X (Or.inl q_736) hk1 h ⟨Nat.le_of_ble_eq_true rfl, Nat.le_of_ble_eq_true rfl⟩ ⟨Nat.zero_le _, Nat.zero_le _⟩ (st1 := []) (Nat.le_of_ble_eq_true rfl) dX3_readUnit_32 (fun w19 h => ?_)
    refine V_aload_n X (i := 0) 1 dX3_readUnit_35 rfl rfl ?_
    refine V_iconst X (v := (3 : Int32)) dX3_readUnit_36 (by decide) ?_
    refine K_3_takes X (Or.inl q_702) h ⟨Nat.le_of_ble_eq_true rfl, Nat.le_of_ble_eq_true rfl⟩ ⟨Nat.zero_le _, Nat.zero_le _⟩ (st1 := []) (Nat.le_of_ble_eq_true rfl) dX3_readUnit_37 (fun r21 w20 h => ?_)
    exact V_zret_c X hr dX3_readUnit_40 (bo_z h.1) h.2
theorem c_3_readUnit_q2  {k1 : Nat} {a2 : Int32} (hinj : INJ ad) (hk1 : isLaw k1) {w : Mem} {Q : Int32 → Mem → Prop} (h : wp_3_readUnit (wp_3_readSum 2) k1 a2 w Q) : Met l yX3_readUnit (TBq yX3_readUnit cX3_readUnit 4 (some .boolean)) (RM 9) (va_Pc [.ref (ad 7), .ref (ad k1), .int a2] (PB ad cy D (cmb w wm) wl0)) (va_Qi Q (BC ad cy D wm wl0) (AW ad)) 0 0 (AW ad) := M_enter (by decide) (Nat.le_of_ble_eq_true rfl) hinj (fun p e s m args below meth c X hr => v_3_readUnit_q2 X hr hk1 h)
theorem K_3_readUnit_q2 {own : String} {idx : Nat}  {k1 : Nat} {a2 : Int32} (X : CXq p s m args meth c cc nL own ad cy D A H0) (hL : LK own idx yX3_readUnit) (hk1 : isLaw k1) {w : Mem} {Q : Int32 → Mem → Prop} (h : wp_3_readUnit (wp_3_readSum 2) k1 a2 w Q) (hR : (RM 9).frames + 1 ≤ R.frames ∧ 8 + (4 + 11) + (RM 9).locals ≤ R.locals) (hce : ce ≤ R.cells ∧ sl ≤ R.slots) (hcat : (st1.map fun v => v.category).sum ≤ 8) (hd : decode cc pc = .ok (.invokevirtual idx, 3)) (kk : ∀ (r : Int32) (u : Mem), Q r u → V p l e R s m args below meth c nL ad cy D A H0 ce sl Qs u wm wl0 (pc + 3) ls (.int r :: st1)) : V p l e R s m args below meth c nL ad cy D A H0 ce sl Qs w wm wl0 pc ls (.int a2 :: .ref (ad k1) :: .ref (ad 7) :: st1) := V_callVI_c X mf_3_readUnit hL (rfl : vwCl[3]? = some (RX3, TX3, 9)) (by decide) (rfl : SK 7 = 3) (Nat.lt_of_lt_of_le (by decide : 7 < 150) (CX_nn X)) (c_3_readUnit_q2 X.2.2.2.2.2.2.2.1 hk1 h) (As := [.ref (ad k1), .int a2]) rfl ⟨rfl, rfl⟩ hR hce st1 rfl hcat hd kk
set_option maxRecDepth 20000 in
theorem v_3_readProduct_b93_q2 (X : CXq p s m args meth c cX3_readProduct 6 yX3_readProduct.cls ad cy D (AW ad) s.heap) (hr : meth.sig.returnType = (some .boolean))  {k1 : Nat} (hk1 : isLaw k1) {Q : Int32 → Mem → Prop} {L10 : Int32 → Int32 → Int32 → Mem → Prop} (HL10 : ∀ (l2 : Int32) (l3 : Int32) (l4 : Int32) (w : Mem), L10 l2 l3 l4 w → V p l e (RM 10) s m args below meth c 6 ad cy D (AW ad) s.heap 0 0 (MQ below (va_Qi Q (BC ad cy D wm wl0) (AW ad)) args s 0 0 (AW ad)) w wm wl0 10 [(0, .ref (ad 7)), (1, .ref (ad k1)), (2, .int l2), (3, .int l3), (4, .int l4)] []) : ∀ (l2 : Int32) (l4 : Int32) (l5 : Int32) (s0 : Int32) (w : Mem), wp_3_readProduct_b93 (wp_3_readSum 2) k1 Q L10 l2 l4 l5 s0 w → V p l e (RM 10) s m args below meth c 6 ad cy D (AW ad) s.heap 0 0 (MQ below (va_Qi Q (BC ad cy D wm wl0) (AW ad)) args s 0 0 (AW ad)) w wm wl0 93 [(0, .ref (ad 7)), (1, .ref (ad k1)), (2, .int l2), (4, .int l4), (5, .int l5)] [.int s0] := by
  intro l2 l4 l5 s0 w h
  unfold wp_3_readProduct_b93 at h
  refine V_istore_n X dX3_readProduct_93 rfl (by decide) rfl (ls1 := [(3, .int s0), (0, .ref (ad 7)), (1, .ref (ad k1)), (2, .int l2), (4, .int l4), (5, .int l5)]) rfl ?_
  refine V_aload_n X (i := 1) 2 dX3_readProduct_94 rfl rfl ?_
  refine V_iload X (i := 5) 5 dX3_readProduct_95 rfl ?_
  refine V_iconst X (v := (0 : Int32)) dX3_readProduct_97 (by decide) ?_
  refine K_2_add X (Or.inl q_736) hk1 h ⟨Nat.le_of_ble_eq_true rfl, Nat.le_of_ble_eq_true rfl⟩ ⟨Nat.zero_le _, Nat.zero_le _⟩ (st1 := []) (Nat.le_of_ble_eq_true rfl) dX3_readProduct_98 (fun w1 h => ?_)
  obtain ⟨x2, ex2⟩ : ∃ y : Int32, y = l4 + (1 : Int32) := ⟨_, rfl⟩
  have h := h x2 ex2
  refine V_iinc X 4 dX3_readProduct_101 rfl (by decide) (by rw [ex2]; rfl) (ls1 := [(4, .int x2), (3, .int s0), (0, .ref (ad 7)), (1, .ref (ad k1)), (2, .int l2), (5, .int l5)]) rfl ?_
  refine V_goto X (tgt := 10) dX3_readProduct_104 (by decide) ?_
  refine V_sub X (ls1 := [(0, .ref (ad 7)), (1, .ref (ad k1)), (2, .int l2), (3, .int s0), (4, .int x2)]) [2, 3, 4, 1, 0] rfl ?_
  exact HL10 _ _ _ _ h
set_option maxRecDepth 20000 in
theorem v_3_readProduct_b92_q2 (X : CXq p s m args meth c cX3_readProduct 6 yX3_readProduct.cls ad cy D (AW ad) s.heap) (hr : meth.sig.returnType = (some .boolean))  {k1 : Nat} (hk1 : isLaw k1) {Q : Int32 → Mem → Prop} {L10 : Int32 → Int32 → Int32 → Mem → Prop} (HL10 : ∀ (l2 : Int32) (l3 : Int32) (l4 : Int32) (w : Mem), L10 l2 l3 l4 w → V p l e (RM 10) s m args below meth c 6 ad cy D (AW ad) s.heap 0 0 (MQ below (va_Qi Q (BC ad cy D wm wl0) (AW ad)) args s 0 0 (AW ad)) w wm wl0 10 [(0, .ref (ad 7)), (1, .ref (ad k1)), (2, .int l2), (3, .int l3), (4, .int l4)] []) : ∀ (l2 : Int32) (l4 : Int32) (l5 : Int32) (w : Mem), wp_3_readProduct_b92 (wp_3_readSum 2) k1 Q L10 l2 l4 l5 w → V p l e (RM 10) s m args below meth c 6 ad cy D (AW ad) s.heap 0 0 (MQ below (va_Qi Q (BC ad cy D wm wl0) (AW ad)) args s 0 0 (AW ad)) w wm wl0 92 [(0, .ref (ad 7)), (1, .ref (ad k1)), (2, .int l2), (4, .int l4), (5, .int l5)] [] := by
  intro l2 l4 l5 w h
  unfold wp_3_readProduct_b92 at h
  refine V_iconst X (v := (0 : Int32)) dX3_readProduct_92 (by decide) ?_
  refine V_sub X (ls1 := [(0, .ref (ad 7)), (1, .ref (ad k1)), (2, .int l2), (4, .int l4), (5, .int l5)]) [0, 1, 2, 3, 4] rfl ?_
  exact v_3_readProduct_b93_q2 X hr hk1 HL10 _ _ _ _ _ h
set_option maxRecDepth 20000 in
theorem v_3_readProduct_b56_q2 (X : CXq p s m args meth c cX3_readProduct 6 yX3_readProduct.cls ad cy D (AW ad) s.heap) (hr : meth.sig.returnType = (some .boolean))  {k1 : Nat} (hk1 : isLaw k1) {Q : Int32 → Mem → Prop} {L10 : Int32 → Int32 → Int32 → Mem → Prop} (HL10 : ∀ (l2 : Int32) (l3 : Int32) (l4 : Int32) (w : Mem), L10 l2 l3 l4 w → V p l e (RM 10) s m args below meth c 6 ad cy D (AW ad) s.heap 0 0 (MQ below (va_Qi Q (BC ad cy D wm wl0) (AW ad)) args s 0 0 (AW ad)) w wm wl0 10 [(0, .ref (ad 7)), (1, .ref (ad k1)), (2, .int l2), (3, .int l3), (4, .int l4)] []) : ∀ (l2 : Int32) (l4 : Int32) (w : Mem), wp_3_readProduct_b56 (wp_3_readSum 2) k1 Q L10 l2 l4 w → V p l e (RM 10) s m args below meth c 6 ad cy D (AW ad) s.heap 0 0 (MQ below (va_Qi Q (BC ad cy D wm wl0) (AW ad)) args s 0 0 (AW ad)) w wm wl0 56 [(0, .ref (ad 7)), (1, .ref (ad k1)), (2, .int l2), (4, .int l4)] [] := by
  intro l2 l4 w h
  unfold wp_3_readProduct_b56 at h
  refine V_aload_n X (i := 0) 0 dX3_readProduct_56 rfl rfl ?_
  refine G_3_15 X dX3_readProduct_57 ?_
  refine G_3_45 X dX3_readProduct_60 ?_
  refine V_aload_n X (i := 0) 0 dX3_readProduct_63 rfl rfl ?_
  refine G_3_19 X dX3_readProduct_64 ?_
  obtain ⟨g1, h⟩ := h
  refine V_iald_c X (rfl : SLq 4 = 401) (by decide) (rfl : SK 4 = 14) g1 dX3_readProduct_67 ?_
  obtain ⟨x2, ex2⟩ : ∃ y : Int32, y = (w 4 (ix (w 7 3))) := ⟨_, rfl⟩
  have h := h x2 ex2
  refine V_istore X dX3_readProduct_68 (by decide) ex2 (ls1 := [(5, .int x2), (0, .ref (ad 7)), (1, .ref (ad k1)), (2, .int l2), (4, .int l4)]) rfl ?_
  refine V_aload_n X (i := 0) 1 dX3_readProduct_70 rfl rfl ?_
  refine V_iload X (i := 5) 0 dX3_readProduct_71 rfl ?_
  refine K_3_takes X (Or.inl q_702) h ⟨Nat.le_of_ble_eq_true rfl, Nat.le_of_ble_eq_true rfl⟩ ⟨Nat.zero_le _, Nat.zero_le _⟩ (st1 := []) (Nat.le_of_ble_eq_true rfl) dX3_readProduct_73 (fun r4 w3 h => ?_)
  obtain ⟨ht, hf⟩ := h
  refine V_if_eq X (tgt := 92) dX3_readProduct_76 (by decide) (fun c => ?_) (fun c => ?_)
  · have h := ht c
    refine V_sub X (ls1 := [(0, .ref (ad 7)), (1, .ref (ad k1)), (2, .int l2), (4, .int l4), (5, .int x2)]) [1, 2, 3, 4, 0] rfl ?_
    exact v_3_readProduct_b92_q2 X hr hk1 HL10 _ _ _ _ h
  · have h := hf c
    refine V_aload_n X (i := 0) 1 dX3_readProduct_79 rfl rfl ?_
    refine V_aload_n X (i := 1) 2 dX3_readProduct_80 rfl rfl ?_
    refine V_iload_n X (i := 2) 3 dX3_readProduct_81 rfl rfl ?_
    refine K_3_readUnit_q2 X (Or.inl q_732) hk1 h ⟨Nat.le_of_ble_eq_true rfl, Nat.le_of_ble_eq_true rfl⟩ ⟨Nat.zero_le _, Nat.zero_le _⟩ (st1 := []) (Nat.le_of_ble_eq_true rfl) dX3_readProduct_82 (fun r6 w5 h => ?_)
    obtain ⟨ht, hf⟩ := h
    refine V_if_eq X (tgt := 92) dX3_readProduct_85 (by decide) (fun c => ?_) (fun c => ?_)
    · have h := ht c
      refine V_sub X (ls1 := [(0, .ref (ad 7)), (1, .ref (ad k1)), (2, .int l2), (4, .int l4), (5, .int x2)]) [1, 2, 3, 4, 0] rfl ?_
      exact v_3_readProduct_b92_q2 X hr hk1 HL10 _ _ _ _ h
    · have h := hf c
      refine V_iconst X (v := (1 : Int32)) dX3_readProduct_88 (by decide) ?_
      refine V_goto X (tgt := 93) dX3_readProduct_89 (by decide) ?_
      refine V_sub X (ls1 := [(0, .ref (ad 7)), (1, .ref (ad k1)), (2, .int l2), (4, .int l4), (5, .int x2)]) [1, 2, 3, 4, 0] rfl ?_
      exact v_3_readProduct_b93_q2 X hr hk1 HL10 _ _ _ _ _ h
set_option maxRecDepth 20000 in
theorem v_3_readProduct_b10_q2 (X : CXq p s m args meth c cX3_readProduct 6 yX3_readProduct.cls ad cy D (AW ad) s.heap) (hr : meth.sig.returnType = (some .boolean))  {k1 : Nat} (hk1 : isLaw k1) {Q : Int32 → Mem → Prop} : ∀ (n : Nat) (l2 : Int32) (l3 : Int32) (l4 : Int32) (w : Mem), wp_3_readProduct_b10 (wp_3_readSum 2) k1 Q n l2 l3 l4 w → V p l e (RM 10) s m args below meth c 6 ad cy D (AW ad) s.heap 0 0 (MQ below (va_Qi Q (BC ad cy D wm wl0) (AW ad)) args s 0 0 (AW ad)) w wm wl0 10 [(0, .ref (ad 7)), (1, .ref (ad k1)), (2, .int l2), (3, .int l3), (4, .int l4)] [] := by
  intro n
  induction n with
  | zero =>
    intro l2 l3 l4 w h
    exact h.elim
  | succ n ih =>
    intro l2 l3 l4 w h
    unfold wp_3_readProduct_b10 at h
    refine V_iload X (i := 4) 4 dX3_readProduct_10 rfl ?_
    refine V_sipush X (v := (400 : Int32)) dX3_readProduct_12 (by decide) ?_
    obtain ⟨ht, hf⟩ := h
    refine V_icmp_ge X (tgt := 107) dX3_readProduct_15 (by decide) (fun c => ?_) (fun c => ?_)
    · have h := ht c
      refine V_iload_n X (i := 3) 3 dX3_readProduct_107 rfl rfl ?_
      exact V_zret_c X hr dX3_readProduct_108 (bo_z h.1) h.2
    · have h := hf c
      refine V_iload_n X (i := 3) 3 dX3_readProduct_18 rfl rfl ?_
      obtain ⟨ht, hf⟩ := h
      refine V_if_eq X (tgt := 107) dX3_readProduct_19 (by decide) (fun c => ?_) (fun c => ?_)
      · have h := ht c
        refine V_iload_n X (i := 3) 3 dX3_readProduct_107 rfl rfl ?_
        exact V_zret_c X hr dX3_readProduct_108 (bo_z h.1) h.2
      · have h := hf c
        refine V_aload_n X (i := 0) 0 dX3_readProduct_22 rfl rfl ?_
        refine G_3_15 X dX3_readProduct_23 ?_
        refine G_3_45 X dX3_readProduct_26 ?_
        refine V_aload_n X (i := 0) 0 dX3_readProduct_29 rfl rfl ?_
        refine G_3_19 X dX3_readProduct_30 ?_
        obtain ⟨g1, h⟩ := h
        refine V_iald_c X (rfl : SLq 4 = 401) (by decide) (rfl : SK 4 = 14) g1 dX3_readProduct_33 ?_
        refine V_bipush X (v := (42 : Int32)) dX3_readProduct_34 (by decide) ?_
        obtain ⟨ht, hf⟩ := h
        refine V_icmp_eq X (tgt := 56) dX3_readProduct_36 (by decide) (fun c => ?_) (fun c => ?_)
        · have h := ht c
          refine V_sub X (ls1 := [(0, .ref (ad 7)), (1, .ref (ad k1)), (2, .int l2), (4, .int l4)]) [0, 1, 2, 4] rfl ?_
          exact v_3_readProduct_b56_q2 X hr hk1 ih _ _ _ h
        · have h := hf c
          refine V_aload_n X (i := 0) 0 dX3_readProduct_39 rfl rfl ?_
          refine G_3_15 X dX3_readProduct_40 ?_
          refine G_3_45 X dX3_readProduct_43 ?_
          refine V_aload_n X (i := 0) 0 dX3_readProduct_46 rfl rfl ?_
          refine G_3_19 X dX3_readProduct_47 ?_
          obtain ⟨g2, h⟩ := h
          refine V_iald_c X (rfl : SLq 4 = 401) (by decide) (rfl : SK 4 = 14) g2 dX3_readProduct_50 ?_
          refine V_bipush X (v := (47 : Int32)) dX3_readProduct_51 (by decide) ?_
          obtain ⟨ht, hf⟩ := h
          refine V_icmp_ne X (tgt := 107) dX3_readProduct_53 (by decide) (fun c => ?_) (fun c => ?_)
          · have h := ht c
            refine V_iload_n X (i := 3) 3 dX3_readProduct_107 rfl rfl ?_
            exact V_zret_c X hr dX3_readProduct_108 (bo_z h.1) h.2
          · have h := hf c
            refine V_sub X (ls1 := [(0, .ref (ad 7)), (1, .ref (ad k1)), (2, .int l2), (4, .int l4)]) [0, 1, 2, 4] rfl ?_
            exact v_3_readProduct_b56_q2 X hr hk1 ih _ _ _ h
set_option maxRecDepth 20000 in
theorem v_3_readProduct_q2  {k1 : Nat} {a2 : Int32} (X : CXq p s m args meth c cX3_readProduct 6 yX3_readProduct.cls ad cy D (AW ad) s.heap) (hr : meth.sig.returnType = (some .boolean)) (hk1 : isLaw k1) {w : Mem} {Q : Int32 → Mem → Prop} (h : wp_3_readProduct (wp_3_readSum 2) k1 a2 w Q) : V p l e (RM 10) s m args below meth c 6 ad cy D (AW ad) s.heap 0 0 (MQ below (va_Qi Q (BC ad cy D wm wl0) (AW ad)) args s 0 0 (AW ad)) w wm wl0 0 [(0, .ref (ad 7)), (1, .ref (ad k1)), (2, .int a2)] [] := by
  unfold wp_3_readProduct at h
  refine V_aload_n X (i := 0) 0 dX3_readProduct_0 rfl rfl ?_
  refine V_aload_n X (i := 1) 1 dX3_readProduct_1 rfl rfl ?_
  refine V_iload_n X (i := 2) 2 dX3_readProduct_2 rfl rfl ?_
  refine K_3_readUnit_q2 X (Or.inl q_732) hk1 h ⟨Nat.le_of_ble_eq_true rfl, Nat.le_of_ble_eq_true rfl⟩ ⟨Nat.zero_le _, Nat.zero_le _⟩ (st1 := []) (Nat.le_of_ble_eq_true rfl) dX3_readProduct_3 (fun r2 w1 h => ?_)
  refine V_istore_n X dX3_readProduct_6 rfl (by decide) rfl (ls1 := [(3, .int r2), (0, .ref (ad 7)), (1, .ref (ad k1)), (2, .int a2)]) rfl ?_
  refine V_iconst X (v := (0 : Int32)) dX3_readProduct_7 (by decide) ?_
  refine V_istore X dX3_readProduct_8 (by decide) rfl (ls1 := [(4, .int (0 : Int32)), (3, .int r2), (0, .ref (ad 7)), (1, .ref (ad k1)), (2, .int a2)]) rfl ?_
  refine V_sub X (ls1 := [(0, .ref (ad 7)), (1, .ref (ad k1)), (2, .int a2), (3, .int r2), (4, .int (0 : Int32))]) [2, 3, 4, 1, 0] rfl ?_
  obtain ⟨nn, h⟩ := h
  exact v_3_readProduct_b10_q2 X hr hk1 nn _ _ _ _ h
theorem c_3_readProduct_q2  {k1 : Nat} {a2 : Int32} (hinj : INJ ad) (hk1 : isLaw k1) {w : Mem} {Q : Int32 → Mem → Prop} (h : wp_3_readProduct (wp_3_readSum 2) k1 a2 w Q) : Met l yX3_readProduct (TBq yX3_readProduct cX3_readProduct 6 (some .boolean)) (RM 10) (va_Pc [.ref (ad 7), .ref (ad k1), .int a2] (PB ad cy D (cmb w wm) wl0)) (va_Qi Q (BC ad cy D wm wl0) (AW ad)) 0 0 (AW ad) := M_enter (by decide) (Nat.le_of_ble_eq_true rfl) hinj (fun p e s m args below meth c X hr => v_3_readProduct_q2 X hr hk1 h)
theorem K_3_readProduct_q2 {own : String} {idx : Nat}  {k1 : Nat} {a2 : Int32} (X : CXq p s m args meth c cc nL own ad cy D A H0) (hL : LK own idx yX3_readProduct) (hk1 : isLaw k1) {w : Mem} {Q : Int32 → Mem → Prop} (h : wp_3_readProduct (wp_3_readSum 2) k1 a2 w Q) (hR : (RM 10).frames + 1 ≤ R.frames ∧ 8 + (6 + 11) + (RM 10).locals ≤ R.locals) (hce : ce ≤ R.cells ∧ sl ≤ R.slots) (hcat : (st1.map fun v => v.category).sum ≤ 8) (hd : decode cc pc = .ok (.invokevirtual idx, 3)) (kk : ∀ (r : Int32) (u : Mem), Q r u → V p l e R s m args below meth c nL ad cy D A H0 ce sl Qs u wm wl0 (pc + 3) ls (.int r :: st1)) : V p l e R s m args below meth c nL ad cy D A H0 ce sl Qs w wm wl0 pc ls (.int a2 :: .ref (ad k1) :: .ref (ad 7) :: st1) := V_callVI_c X mf_3_readProduct hL (rfl : vwCl[3]? = some (RX3, TX3, 9)) (by decide) (rfl : SK 7 = 3) (Nat.lt_of_lt_of_le (by decide : 7 < 150) (CX_nn X)) (c_3_readProduct_q2 X.2.2.2.2.2.2.2.1 hk1 h) (As := [.ref (ad k1), .int a2]) rfl ⟨rfl, rfl⟩ hR hce st1 rfl hcat hd kk
set_option maxRecDepth 20000 in
theorem v_3_readSumF_b107_q2 (X : CXq p s m args meth c cX3_readSum 6 yX3_readSum.cls ad cy D (AW ad) s.heap) (hr : meth.sig.returnType = (some .boolean))  {k1 : Nat} (hk1 : isLaw k1) {Q : Int32 → Mem → Prop} : ∀ (l2 : Int32) (l3 : Int32) (w : Mem), wp_3_readSumF_b107 (wp_3_readSum 2) k1 Q l2 l3 w → V p l e (RM 11) s m args below meth c 6 ad cy D (AW ad) s.heap 0 0 (MQ below (va_Qi Q (BC ad cy D wm wl0) (AW ad)) args s 0 0 (AW ad)) w wm wl0 107 [(1, .ref (ad k1)), (2, .int l2), (3, .int l3)] [] := by
  intro l2 l3 w h
  unfold wp_3_readSumF_b107 at h
  refine V_iload_n X (i := 2) 1 dX3_readSum_107 rfl rfl ?_
  obtain ⟨ht, hf⟩ := h
  refine V_if_ne X (tgt := 115) dX3_readSum_108 (by decide) (fun c => ?_) (fun c => ?_)
  · have h := ht c
    refine V_iload_n X (i := 3) 2 dX3_readSum_115 rfl rfl ?_
    exact V_zret_c X hr dX3_readSum_116 (bo_z h.1) h.2
  · have h := hf c
    refine V_aload_n X (i := 1) 0 dX3_readSum_111 rfl rfl ?_
    refine K_2_endPiece X (Or.inl q_737) hk1 h ⟨Nat.le_of_ble_eq_true rfl, Nat.le_of_ble_eq_true rfl⟩ ⟨Nat.zero_le _, Nat.zero_le _⟩ (st1 := []) (Nat.le_of_ble_eq_true rfl) dX3_readSum_112 (fun w1 h => ?_)
    refine V_iload_n X (i := 3) 2 dX3_readSum_115 rfl rfl ?_
    exact V_zret_c X hr dX3_readSum_116 (bo_z h.1) h.2
set_option maxRecDepth 20000 in
theorem v_3_readSumF_b93_q2 (X : CXq p s m args meth c cX3_readSum 6 yX3_readSum.cls ad cy D (AW ad) s.heap) (hr : meth.sig.returnType = (some .boolean))  {k1 : Nat} (hk1 : isLaw k1) {Q : Int32 → Mem → Prop} {L10 : Int32 → Int32 → Int32 → Mem → Prop} (HL10 : ∀ (l2 : Int32) (l3 : Int32) (l4 : Int32) (w : Mem), L10 l2 l3 l4 w → V p l e (RM 11) s m args below meth c 6 ad cy D (AW ad) s.heap 0 0 (MQ below (va_Qi Q (BC ad cy D wm wl0) (AW ad)) args s 0 0 (AW ad)) w wm wl0 10 [(0, .ref (ad 7)), (1, .ref (ad k1)), (2, .int l2), (3, .int l3), (4, .int l4)] []) : ∀ (l2 : Int32) (l4 : Int32) (l5 : Int32) (s0 : Int32) (w : Mem), wp_3_readSumF_b93 (wp_3_readSum 2) k1 Q L10 l2 l4 l5 s0 w → V p l e (RM 11) s m args below meth c 6 ad cy D (AW ad) s.heap 0 0 (MQ below (va_Qi Q (BC ad cy D wm wl0) (AW ad)) args s 0 0 (AW ad)) w wm wl0 93 [(0, .ref (ad 7)), (1, .ref (ad k1)), (2, .int l2), (4, .int l4), (5, .int l5)] [.int s0] := by
  intro l2 l4 l5 s0 w h
  unfold wp_3_readSumF_b93 at h
  refine V_istore_n X dX3_readSum_93 rfl (by decide) rfl (ls1 := [(3, .int s0), (0, .ref (ad 7)), (1, .ref (ad k1)), (2, .int l2), (4, .int l4), (5, .int l5)]) rfl ?_
  refine V_aload_n X (i := 1) 2 dX3_readSum_94 rfl rfl ?_
  refine V_iload X (i := 5) 5 dX3_readSum_95 rfl ?_
  refine V_iconst X (v := (0 : Int32)) dX3_readSum_97 (by decide) ?_
  refine K_2_add X (Or.inl q_736) hk1 h ⟨Nat.le_of_ble_eq_true rfl, Nat.le_of_ble_eq_true rfl⟩ ⟨Nat.zero_le _, Nat.zero_le _⟩ (st1 := []) (Nat.le_of_ble_eq_true rfl) dX3_readSum_98 (fun w1 h => ?_)
  obtain ⟨x2, ex2⟩ : ∃ y : Int32, y = l4 + (1 : Int32) := ⟨_, rfl⟩
  have h := h x2 ex2
  refine V_iinc X 4 dX3_readSum_101 rfl (by decide) (by rw [ex2]; rfl) (ls1 := [(4, .int x2), (3, .int s0), (0, .ref (ad 7)), (1, .ref (ad k1)), (2, .int l2), (5, .int l5)]) rfl ?_
  refine V_goto X (tgt := 10) dX3_readSum_104 (by decide) ?_
  refine V_sub X (ls1 := [(0, .ref (ad 7)), (1, .ref (ad k1)), (2, .int l2), (3, .int s0), (4, .int x2)]) [2, 3, 4, 1, 0] rfl ?_
  exact HL10 _ _ _ _ h
set_option maxRecDepth 20000 in
theorem v_3_readSumF_b92_q2 (X : CXq p s m args meth c cX3_readSum 6 yX3_readSum.cls ad cy D (AW ad) s.heap) (hr : meth.sig.returnType = (some .boolean))  {k1 : Nat} (hk1 : isLaw k1) {Q : Int32 → Mem → Prop} {L10 : Int32 → Int32 → Int32 → Mem → Prop} (HL10 : ∀ (l2 : Int32) (l3 : Int32) (l4 : Int32) (w : Mem), L10 l2 l3 l4 w → V p l e (RM 11) s m args below meth c 6 ad cy D (AW ad) s.heap 0 0 (MQ below (va_Qi Q (BC ad cy D wm wl0) (AW ad)) args s 0 0 (AW ad)) w wm wl0 10 [(0, .ref (ad 7)), (1, .ref (ad k1)), (2, .int l2), (3, .int l3), (4, .int l4)] []) : ∀ (l2 : Int32) (l4 : Int32) (l5 : Int32) (w : Mem), wp_3_readSumF_b92 (wp_3_readSum 2) k1 Q L10 l2 l4 l5 w → V p l e (RM 11) s m args below meth c 6 ad cy D (AW ad) s.heap 0 0 (MQ below (va_Qi Q (BC ad cy D wm wl0) (AW ad)) args s 0 0 (AW ad)) w wm wl0 92 [(0, .ref (ad 7)), (1, .ref (ad k1)), (2, .int l2), (4, .int l4), (5, .int l5)] [] := by
  intro l2 l4 l5 w h
  unfold wp_3_readSumF_b92 at h
  refine V_iconst X (v := (0 : Int32)) dX3_readSum_92 (by decide) ?_
  refine V_sub X (ls1 := [(0, .ref (ad 7)), (1, .ref (ad k1)), (2, .int l2), (4, .int l4), (5, .int l5)]) [0, 1, 2, 3, 4] rfl ?_
  exact v_3_readSumF_b93_q2 X hr hk1 HL10 _ _ _ _ _ h
set_option maxRecDepth 20000 in
theorem v_3_readSumF_b56_q2 (X : CXq p s m args meth c cX3_readSum 6 yX3_readSum.cls ad cy D (AW ad) s.heap) (hr : meth.sig.returnType = (some .boolean))  {k1 : Nat} (hk1 : isLaw k1) {Q : Int32 → Mem → Prop} {L10 : Int32 → Int32 → Int32 → Mem → Prop} (HL10 : ∀ (l2 : Int32) (l3 : Int32) (l4 : Int32) (w : Mem), L10 l2 l3 l4 w → V p l e (RM 11) s m args below meth c 6 ad cy D (AW ad) s.heap 0 0 (MQ below (va_Qi Q (BC ad cy D wm wl0) (AW ad)) args s 0 0 (AW ad)) w wm wl0 10 [(0, .ref (ad 7)), (1, .ref (ad k1)), (2, .int l2), (3, .int l3), (4, .int l4)] []) : ∀ (l2 : Int32) (l4 : Int32) (w : Mem), wp_3_readSumF_b56 (wp_3_readSum 2) k1 Q L10 l2 l4 w → V p l e (RM 11) s m args below meth c 6 ad cy D (AW ad) s.heap 0 0 (MQ below (va_Qi Q (BC ad cy D wm wl0) (AW ad)) args s 0 0 (AW ad)) w wm wl0 56 [(0, .ref (ad 7)), (1, .ref (ad k1)), (2, .int l2), (4, .int l4)] [] := by
  intro l2 l4 w h
  unfold wp_3_readSumF_b56 at h
  refine V_aload_n X (i := 0) 0 dX3_readSum_56 rfl rfl ?_
  refine G_3_15 X dX3_readSum_57 ?_
  refine G_3_45 X dX3_readSum_60 ?_
  refine V_aload_n X (i := 0) 0 dX3_readSum_63 rfl rfl ?_
  refine G_3_19 X dX3_readSum_64 ?_
  obtain ⟨g1, h⟩ := h
  refine V_iald_c X (rfl : SLq 4 = 401) (by decide) (rfl : SK 4 = 14) g1 dX3_readSum_67 ?_
  obtain ⟨x2, ex2⟩ : ∃ y : Int32, y = (w 4 (ix (w 7 3))) := ⟨_, rfl⟩
  have h := h x2 ex2
  refine V_istore X dX3_readSum_68 (by decide) ex2 (ls1 := [(5, .int x2), (0, .ref (ad 7)), (1, .ref (ad k1)), (2, .int l2), (4, .int l4)]) rfl ?_
  refine V_aload_n X (i := 0) 1 dX3_readSum_70 rfl rfl ?_
  refine V_iload X (i := 5) 0 dX3_readSum_71 rfl ?_
  refine K_3_takes X (Or.inl q_702) h ⟨Nat.le_of_ble_eq_true rfl, Nat.le_of_ble_eq_true rfl⟩ ⟨Nat.zero_le _, Nat.zero_le _⟩ (st1 := []) (Nat.le_of_ble_eq_true rfl) dX3_readSum_73 (fun r4 w3 h => ?_)
  obtain ⟨ht, hf⟩ := h
  refine V_if_eq X (tgt := 92) dX3_readSum_76 (by decide) (fun c => ?_) (fun c => ?_)
  · have h := ht c
    refine V_sub X (ls1 := [(0, .ref (ad 7)), (1, .ref (ad k1)), (2, .int l2), (4, .int l4), (5, .int x2)]) [1, 2, 3, 4, 0] rfl ?_
    exact v_3_readSumF_b92_q2 X hr hk1 HL10 _ _ _ _ h
  · have h := hf c
    refine V_aload_n X (i := 0) 1 dX3_readSum_79 rfl rfl ?_
    refine V_aload_n X (i := 1) 2 dX3_readSum_80 rfl rfl ?_
    refine V_iload_n X (i := 2) 3 dX3_readSum_81 rfl rfl ?_
    refine K_3_readProduct_q2 X (Or.inl q_728) hk1 h ⟨Nat.le_of_ble_eq_true rfl, Nat.le_of_ble_eq_true rfl⟩ ⟨Nat.zero_le _, Nat.zero_le _⟩ (st1 := []) (Nat.le_of_ble_eq_true rfl) dX3_readSum_82 (fun r6 w5 h => ?_)
    obtain ⟨ht, hf⟩ := h
    refine V_if_eq X (tgt := 92) dX3_readSum_85 (by decide) (fun c => ?_) (fun c => ?_)
    · have h := ht c
      refine V_sub X (ls1 := [(0, .ref (ad 7)), (1, .ref (ad k1)), (2, .int l2), (4, .int l4), (5, .int x2)]) [1, 2, 3, 4, 0] rfl ?_
      exact v_3_readSumF_b92_q2 X hr hk1 HL10 _ _ _ _ h
    · have h := hf c
      refine V_iconst X (v := (1 : Int32)) dX3_readSum_88 (by decide) ?_
      refine V_goto X (tgt := 93) dX3_readSum_89 (by decide) ?_
      refine V_sub X (ls1 := [(0, .ref (ad 7)), (1, .ref (ad k1)), (2, .int l2), (4, .int l4), (5, .int x2)]) [1, 2, 3, 4, 0] rfl ?_
      exact v_3_readSumF_b93_q2 X hr hk1 HL10 _ _ _ _ _ h
set_option maxRecDepth 20000 in
theorem v_3_readSumF_b10_q2 (X : CXq p s m args meth c cX3_readSum 6 yX3_readSum.cls ad cy D (AW ad) s.heap) (hr : meth.sig.returnType = (some .boolean))  {k1 : Nat} (hk1 : isLaw k1) {Q : Int32 → Mem → Prop} : ∀ (n : Nat) (l2 : Int32) (l3 : Int32) (l4 : Int32) (w : Mem), wp_3_readSumF_b10 (wp_3_readSum 2) k1 Q n l2 l3 l4 w → V p l e (RM 11) s m args below meth c 6 ad cy D (AW ad) s.heap 0 0 (MQ below (va_Qi Q (BC ad cy D wm wl0) (AW ad)) args s 0 0 (AW ad)) w wm wl0 10 [(0, .ref (ad 7)), (1, .ref (ad k1)), (2, .int l2), (3, .int l3), (4, .int l4)] [] := by
  intro n
  induction n with
  | zero =>
    intro l2 l3 l4 w h
    exact h.elim
  | succ n ih =>
    intro l2 l3 l4 w h
    unfold wp_3_readSumF_b10 at h
    refine V_iload X (i := 4) 4 dX3_readSum_10 rfl ?_
    refine V_sipush X (v := (400 : Int32)) dX3_readSum_12 (by decide) ?_
    obtain ⟨ht, hf⟩ := h
    refine V_icmp_ge X (tgt := 107) dX3_readSum_15 (by decide) (fun c => ?_) (fun c => ?_)
    · have h := ht c
      refine V_sub X (ls1 := [(1, .ref (ad k1)), (2, .int l2), (3, .int l3)]) [1, 2, 3] rfl ?_
      exact v_3_readSumF_b107_q2 X hr hk1 _ _ _ h
    · have h := hf c
      refine V_iload_n X (i := 3) 3 dX3_readSum_18 rfl rfl ?_
      obtain ⟨ht, hf⟩ := h
      refine V_if_eq X (tgt := 107) dX3_readSum_19 (by decide) (fun c => ?_) (fun c => ?_)
      · have h := ht c
        refine V_sub X (ls1 := [(1, .ref (ad k1)), (2, .int l2), (3, .int l3)]) [1, 2, 3] rfl ?_
        exact v_3_readSumF_b107_q2 X hr hk1 _ _ _ h
      · have h := hf c
        refine V_aload_n X (i := 0) 0 dX3_readSum_22 rfl rfl ?_
        refine G_3_15 X dX3_readSum_23 ?_
        refine G_3_45 X dX3_readSum_26 ?_
        refine V_aload_n X (i := 0) 0 dX3_readSum_29 rfl rfl ?_
        refine G_3_19 X dX3_readSum_30 ?_
        obtain ⟨g1, h⟩ := h
        refine V_iald_c X (rfl : SLq 4 = 401) (by decide) (rfl : SK 4 = 14) g1 dX3_readSum_33 ?_
        refine V_bipush X (v := (43 : Int32)) dX3_readSum_34 (by decide) ?_
        obtain ⟨ht, hf⟩ := h
        refine V_icmp_eq X (tgt := 56) dX3_readSum_36 (by decide) (fun c => ?_) (fun c => ?_)
        · have h := ht c
          refine V_sub X (ls1 := [(0, .ref (ad 7)), (1, .ref (ad k1)), (2, .int l2), (4, .int l4)]) [0, 1, 2, 4] rfl ?_
          exact v_3_readSumF_b56_q2 X hr hk1 ih _ _ _ h
        · have h := hf c
          refine V_aload_n X (i := 0) 0 dX3_readSum_39 rfl rfl ?_
          refine G_3_15 X dX3_readSum_40 ?_
          refine G_3_45 X dX3_readSum_43 ?_
          refine V_aload_n X (i := 0) 0 dX3_readSum_46 rfl rfl ?_
          refine G_3_19 X dX3_readSum_47 ?_
          obtain ⟨g2, h⟩ := h
          refine V_iald_c X (rfl : SLq 4 = 401) (by decide) (rfl : SK 4 = 14) g2 dX3_readSum_50 ?_
          refine V_bipush X (v := (45 : Int32)) dX3_readSum_51 (by decide) ?_
          obtain ⟨ht, hf⟩ := h
          refine V_icmp_ne X (tgt := 107) dX3_readSum_53 (by decide) (fun c => ?_) (fun c => ?_)
          · have h := ht c
            refine V_sub X (ls1 := [(1, .ref (ad k1)), (2, .int l2), (3, .int l3)]) [1, 2, 3] rfl ?_
            exact v_3_readSumF_b107_q2 X hr hk1 _ _ _ h
          · have h := hf c
            refine V_sub X (ls1 := [(0, .ref (ad 7)), (1, .ref (ad k1)), (2, .int l2), (4, .int l4)]) [0, 1, 2, 4] rfl ?_
            exact v_3_readSumF_b56_q2 X hr hk1 ih _ _ _ h
set_option maxRecDepth 20000 in
theorem v_3_readSumF_q2  {k1 : Nat} {a2 : Int32} (X : CXq p s m args meth c cX3_readSum 6 yX3_readSum.cls ad cy D (AW ad) s.heap) (hr : meth.sig.returnType = (some .boolean)) (hk1 : isLaw k1) {w : Mem} {Q : Int32 → Mem → Prop} (h : wp_3_readSumF (wp_3_readSum 2) k1 a2 w Q) : V p l e (RM 11) s m args below meth c 6 ad cy D (AW ad) s.heap 0 0 (MQ below (va_Qi Q (BC ad cy D wm wl0) (AW ad)) args s 0 0 (AW ad)) w wm wl0 0 [(0, .ref (ad 7)), (1, .ref (ad k1)), (2, .int a2)] [] := by
  unfold wp_3_readSumF at h
  refine V_aload_n X (i := 0) 0 dX3_readSum_0 rfl rfl ?_
  refine V_aload_n X (i := 1) 1 dX3_readSum_1 rfl rfl ?_
  refine V_iload_n X (i := 2) 2 dX3_readSum_2 rfl rfl ?_
  refine K_3_readProduct_q2 X (Or.inl q_728) hk1 h ⟨Nat.le_of_ble_eq_true rfl, Nat.le_of_ble_eq_true rfl⟩ ⟨Nat.zero_le _, Nat.zero_le _⟩ (st1 := []) (Nat.le_of_ble_eq_true rfl) dX3_readSum_3 (fun r2 w1 h => ?_)
  refine V_istore_n X dX3_readSum_6 rfl (by decide) rfl (ls1 := [(3, .int r2), (0, .ref (ad 7)), (1, .ref (ad k1)), (2, .int a2)]) rfl ?_
  refine V_iconst X (v := (0 : Int32)) dX3_readSum_7 (by decide) ?_
  refine V_istore X dX3_readSum_8 (by decide) rfl (ls1 := [(4, .int (0 : Int32)), (3, .int r2), (0, .ref (ad 7)), (1, .ref (ad k1)), (2, .int a2)]) rfl ?_
  refine V_sub X (ls1 := [(0, .ref (ad 7)), (1, .ref (ad k1)), (2, .int a2), (3, .int r2), (4, .int (0 : Int32))]) [2, 3, 4, 1, 0] rfl ?_
  obtain ⟨nn, h⟩ := h
  exact v_3_readSumF_b10_q2 X hr hk1 nn _ _ _ _ h
theorem c_3_readSumF_q2  {k1 : Nat} {a2 : Int32} (hinj : INJ ad) (hk1 : isLaw k1) {w : Mem} {Q : Int32 → Mem → Prop} (h : wp_3_readSumF (wp_3_readSum 2) k1 a2 w Q) : Met l yX3_readSum (TBq yX3_readSum cX3_readSum 6 (some .boolean)) (RM 11) (va_Pc [.ref (ad 7), .ref (ad k1), .int a2] (PB ad cy D (cmb w wm) wl0)) (va_Qi Q (BC ad cy D wm wl0) (AW ad)) 0 0 (AW ad) := M_enter (by decide) (Nat.le_of_ble_eq_true rfl) hinj (fun p e s m args below meth c X hr => v_3_readSumF_q2 X hr hk1 h)
theorem K_3_readSumF_q2 {own : String} {idx : Nat}  {k1 : Nat} {a2 : Int32} (X : CXq p s m args meth c cc nL own ad cy D A H0) (hL : LK own idx yX3_readSum) (hk1 : isLaw k1) {w : Mem} {Q : Int32 → Mem → Prop} (h : wp_3_readSumF (wp_3_readSum 2) k1 a2 w Q) (hR : (RM 11).frames + 1 ≤ R.frames ∧ 8 + (6 + 11) + (RM 11).locals ≤ R.locals) (hce : ce ≤ R.cells ∧ sl ≤ R.slots) (hcat : (st1.map fun v => v.category).sum ≤ 8) (hd : decode cc pc = .ok (.invokevirtual idx, 3)) (kk : ∀ (r : Int32) (u : Mem), Q r u → V p l e R s m args below meth c nL ad cy D A H0 ce sl Qs u wm wl0 (pc + 3) ls (.int r :: st1)) : V p l e R s m args below meth c nL ad cy D A H0 ce sl Qs w wm wl0 pc ls (.int a2 :: .ref (ad k1) :: .ref (ad 7) :: st1) := V_callVI_c X mf_3_readSumF hL (rfl : vwCl[3]? = some (RX3, TX3, 9)) (by decide) (rfl : SK 7 = 3) (Nat.lt_of_lt_of_le (by decide : 7 < 150) (CX_nn X)) (c_3_readSumF_q2 X.2.2.2.2.2.2.2.1 hk1 h) (As := [.ref (ad k1), .int a2]) rfl ⟨rfl, rfl⟩ hR hce st1 rfl hcat hd kk
theorem K_3_readSum_3 {own : String} {idx : Nat}  {k1 : Nat} {a2 : Int32} (X : CXq p s m args meth c cc nL own ad cy D A H0) (hL : LK own idx yX3_readSum) (hk1 : isLaw k1) {w : Mem} {Q : Int32 → Mem → Prop} (h : wp_3_readSum 3 k1 a2 w Q) (hR : (RM 11).frames + 1 ≤ R.frames ∧ 8 + (6 + 11) + (RM 11).locals ≤ R.locals) (hce : ce ≤ R.cells ∧ sl ≤ R.slots) (hcat : (st1.map fun v => v.category).sum ≤ 8) (hd : decode cc pc = .ok (.invokevirtual idx, 3)) (kk : ∀ (r : Int32) (u : Mem), Q r u → V p l e R s m args below meth c nL ad cy D A H0 ce sl Qs u wm wl0 (pc + 3) ls (.int r :: st1)) : V p l e R s m args below meth c nL ad cy D A H0 ce sl Qs w wm wl0 pc ls (.int a2 :: .ref (ad k1) :: .ref (ad 7) :: st1) := K_3_readSumF_q2 X hL hk1 h hR hce hcat hd kk
end
