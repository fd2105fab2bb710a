-- printed by wip/whole/gen6.py out of the decode rows and the tables
section
variable {p : Program} {l : Launch} {e : Env} {R : Room} {s : State} {m : MethodId} {args : Array Value} {below : List Frame} {meth : Method} {c : Code} {cc : ByteArray} {nL : Nat} {ad : Nat → Nat} {cy : Nat → ClassId} {D : va_G} {A : Nat → Prop} {H0 : Heap} {ce sl : Nat} {Qs : State → Prop} {wc wm : Mem} {wl0 : MemL} {pc : Nat} {ls : List (Nat × Value)} {st1 : List Value}
set_option maxRecDepth 20000 in
theorem v_12_put_b3 (X : CXq p s m args meth c cX12_put 3 yX12_put.cls ad cy D (AW ad) s.heap) (hr : meth.sig.returnType = none) (hZ : ad 1000 = 189) {Q : Mem → MemL → Prop} : ∀ (n : Nat) (l1 : Int32) (l2 : Int32) (w : Mem) (wl : MemL), wp_12_put_b3 Q n l1 l2 w wl → V p l e (RM 0) s m args below meth c 3 ad cy D (AW ad) s.heap 0 0 (MQ below (va_Qv (fun (u : Mem × MemL) => Q u.1 u.2) (BM ad cy D wc) (AW ad)) args s 0 0 (AW ad)) wc w wl 3 [(0, .ref (ad 150)), (1, .int l1), (2, .int l2)] [] := by
  intro n
  induction n with
  | zero =>
    intro l1 l2 w wl h
    exact h.elim
  | succ n ih =>
    intro l1 l2 w wl h
    unfold wp_12_put_b3 at h
    refine V_iload_n X (i := 2) 2 dX12_put_3 rfl rfl ?_
    obtain ⟨ht, hf⟩ := h
    refine V_if_lt X (tgt := 36) dX12_put_4 (by decide) (fun c => ?_) (fun c => ?_)
    · have h := ht c
      exact V_vret_m X hr dX12_put_36 h
    · have h := hf c
      refine V_aload_n X (i := 0) 0 dX12_put_7 rfl rfl ?_
      refine G_12_13 X hZ dX12_put_8 ?_
      refine V_aload_n X (i := 0) 0 dX12_put_11 rfl rfl ?_
      refine G_12_151 X hZ dX12_put_12 ?_
      refine V_iload_n X (i := 1) 1 dX12_put_15 rfl rfl ?_
      refine V_iload_n X (i := 2) 2 dX12_put_16 rfl rfl ?_
      refine V_ishr X dX12_put_17 ?_
      refine V_i2b X dX12_put_18 ?_
      obtain ⟨g1, h⟩ := h
      obtain ⟨w2, ew2⟩ : ∃ y : Mem, y = st w 151 (ix (w 150 2)) (vp_nar .byte ((l1 >>> (l2 &&& 31)).toInt8.toInt32)) := ⟨_, rfl⟩
      have h := h w2 ew2
      refine V_bast_m X (rfl : SLq 151 = 2000) (hzk hZ (by decide)) (rfl : SK 151 = 13) g1 dX12_put_19 ew2 ?_
      refine V_aload_n X (i := 0) 0 dX12_put_20 rfl rfl ?_
      refine V_dup X dX12_put_21 rfl ?_
      refine G_12_151 X hZ dX12_put_22 ?_
      refine V_iconst X (v := (1 : Int32)) dX12_put_25 (by decide) ?_
      refine V_iadd X dX12_put_26 ?_
      obtain ⟨w3, ew3⟩ : ∃ y : Mem, y = st w2 150 2 ((w2 150 2) + (1 : Int32)) := ⟨_, rfl⟩
      have h := h w3 ew3
      refine U_12_151 X hZ rfl rfl dX12_put_27 ew3 ?_
      obtain ⟨x4, ex4⟩ : ∃ y : Int32, y = l2 + (-8 : Int32) := ⟨_, rfl⟩
      have h := h x4 ex4
      refine V_iinc X 2 dX12_put_30 rfl (by decide) (by rw [ex4]; rfl) (ls1 := [(2, .int x4), (0, .ref (ad 150)), (1, .int l1)]) rfl ?_
      refine V_goto X (tgt := 3) dX12_put_33 (by decide) ?_
      refine V_sub X (ls1 := [(0, .ref (ad 150)), (1, .int l1), (2, .int x4)]) [1, 2, 0] rfl ?_
      exact ih _ _ _ _ h
set_option maxRecDepth 20000 in
theorem v_12_put {a1 : Int32} (X : CXq p s m args meth c cX12_put 3 yX12_put.cls ad cy D (AW ad) s.heap) (hr : meth.sig.returnType = none) (hZ : ad 1000 = 189) {w : Mem} {wl : MemL} {Q : Mem → MemL → Prop} (h : wp_12_put a1 w wl Q) : V p l e (RM 0) s m args below meth c 3 ad cy D (AW ad) s.heap 0 0 (MQ below (va_Qv (fun (u : Mem × MemL) => Q u.1 u.2) (BM ad cy D wc) (AW ad)) args s 0 0 (AW ad)) wc w wl 0 [(0, .ref (ad 150)), (1, .int a1)] [] := by
  unfold wp_12_put at h
  refine V_bipush X (v := (24 : Int32)) dX12_put_0 (by decide) ?_
  refine V_istore_n X dX12_put_2 rfl (by decide) rfl (ls1 := [(2, .int (24 : Int32)), (0, .ref (ad 150)), (1, .int a1)]) rfl ?_
  refine V_sub X (ls1 := [(0, .ref (ad 150)), (1, .int a1), (2, .int (24 : Int32))]) [1, 2, 0] rfl ?_
  obtain ⟨nn, h⟩ := h
  exact v_12_put_b3 X hr hZ nn _ _ _ _ h
theorem c_12_put {a1 : Int32} (hinj : INJ ad) (hZ : ad 1000 = 189) {w : Mem} {wl : MemL} {Q : Mem → MemL → Prop} (h : wp_12_put a1 w wl Q) : Met l yX12_put (TBq yX12_put cX12_put 3 none) (RM 0) (va_Pc [.ref (ad 150), .int a1] (PB ad cy D (cmb wc w) wl)) (va_Qv (fun (u : Mem × MemL) => Q u.1 u.2) (BM ad cy D wc) (AW ad)) 0 0 (AW ad) := M_enter (by decide) (Nat.le_of_ble_eq_true rfl) hinj (fun p e s m args below meth c X hr => v_12_put X hr hZ h)
theorem mf_12_put : MFV yX12_put cX12_put 3 none yX12_put.cls 1 := ⟨q_1439, q_1438, qs_42, q_14, by decide⟩
theorem K_12_put {own : String} {idx : Nat} {a1 : Int32} (X : CXq p s m args meth c cc nL own ad cy D A H0) (hL : LK own idx yX12_put) (hZ : ad 1000 = 189) {w : Mem} {wl : MemL} {Q : Mem → MemL → Prop} (h : wp_12_put a1 w wl Q) (hR : (RM 0).frames + 1 ≤ R.frames ∧ 8 + (3 + 11) + (RM 0).locals ≤ R.locals) (hce : ce ≤ R.cells ∧ sl ≤ R.slots) (hcat : (st1.map fun v => v.category).sum ≤ 8) (hd : decode cc pc = .ok (.invokevirtual idx, 3)) (kk : ∀ (u : Mem) (v : MemL), Q u v → V p l e R s m args below meth c nL ad cy D A H0 ce sl Qs wc u v (pc + 3) ls st1) : V p l e R s m args below meth c nL ad cy D A H0 ce sl Qs wc w wl pc ls (.int a1 :: .ref (ad 150) :: st1) := V_callVV_m X mf_12_put hL (rfl : vwCl[12]? = some (RX12, TX12, 72)) (by decide) (rfl : SK 150 = 12) (hzk hZ (by decide)).2 (c_12_put X.2.2.2.2.2.2.2.1 hZ h) (As := [.int a1]) rfl ⟨rfl, rfl⟩ hR hce st1 rfl hcat hd kk
set_option maxRecDepth 20000 in
theorem v_12_feed {a1 : Int32} {a2 : Int32} {a3 : Int32} {a4 : Int32} {a5 : Int32} (X : CXq p s m args meth c cX12_feed 6 yX12_feed.cls ad cy D (AW ad) s.heap) (hr : meth.sig.returnType = (some .int)) (hZ : ad 1000 = 189) {w : Mem} {wl : MemL} {Q : Int32 → Mem → MemL → Prop} (h : wp_12_feed a1 a2 a3 a4 a5 w wl Q) : V p l e (RM 1) s m args below meth c 6 ad cy D (AW ad) s.heap 0 0 (MQ below (va_Qi (fun r (u : Mem × MemL) => Q r u.1 u.2) (BM ad cy D wc) (AW ad)) args s 0 0 (AW ad)) wc w wl 0 [(0, .ref (ad 150)), (1, .int a1), (2, .int a2), (3, .int a3), (4, .int a4), (5, .int a5)] [] := by
  unfold wp_12_feed at h
  refine V_aload_n X (i := 0) 0 dX12_feed_0 rfl rfl ?_
  refine G_12_151 X hZ dX12_feed_1 ?_
  refine V_bipush X (v := (20 : Int32)) dX12_feed_4 (by decide) ?_
  refine V_iadd X dX12_feed_6 ?_
  refine V_sipush X (v := (2000 : Int32)) dX12_feed_7 (by decide) ?_
  obtain ⟨ht, hf⟩ := h
  refine V_icmp_le X (tgt := 15) dX12_feed_10 (by decide) (fun c => ?_) (fun c => ?_)
  · have h := ht c
    refine V_aload_n X (i := 0) 0 dX12_feed_15 rfl rfl ?_
    refine V_iload_n X (i := 1) 1 dX12_feed_16 rfl rfl ?_
    refine K_12_put X (Or.inl q_1436) hZ h ⟨Nat.le_of_ble_eq_true rfl, Nat.le_of_ble_eq_true rfl⟩ ⟨Nat.zero_le _, Nat.zero_le _⟩ (st1 := []) (Nat.le_of_ble_eq_true rfl) dX12_feed_17 (fun w1 v2 h => ?_)
    refine V_aload_n X (i := 0) 0 dX12_feed_20 rfl rfl ?_
    refine V_iload_n X (i := 2) 2 dX12_feed_21 rfl rfl ?_
    refine K_12_put X (Or.inl q_1436) hZ h ⟨Nat.le_of_ble_eq_true rfl, Nat.le_of_ble_eq_true rfl⟩ ⟨Nat.zero_le _, Nat.zero_le _⟩ (st1 := []) (Nat.le_of_ble_eq_true rfl) dX12_feed_22 (fun w3 v4 h => ?_)
    refine V_aload_n X (i := 0) 0 dX12_feed_25 rfl rfl ?_
    refine V_iload_n X (i := 3) 3 dX12_feed_26 rfl rfl ?_
    refine K_12_put X (Or.inl q_1436) hZ h ⟨Nat.le_of_ble_eq_true rfl, Nat.le_of_ble_eq_true rfl⟩ ⟨Nat.zero_le _, Nat.zero_le _⟩ (st1 := []) (Nat.le_of_ble_eq_true rfl) dX12_feed_27 (fun w5 v6 h => ?_)
    refine V_aload_n X (i := 0) 0 dX12_feed_30 rfl rfl ?_
    refine V_iload X (i := 4) 4 dX12_feed_31 rfl ?_
    refine K_12_put X (Or.inl q_1436) hZ h ⟨Nat.le_of_ble_eq_true rfl, Nat.le_of_ble_eq_true rfl⟩ ⟨Nat.zero_le _, Nat.zero_le _⟩ (st1 := []) (Nat.le_of_ble_eq_true rfl) dX12_feed_33 (fun w7 v8 h => ?_)
    refine V_aload_n X (i := 0) 0 dX12_feed_36 rfl rfl ?_
    refine V_iload X (i := 5) 5 dX12_feed_37 rfl ?_
    refine K_12_put X (Or.inl q_1436) hZ h ⟨Nat.le_of_ble_eq_true rfl, Nat.le_of_ble_eq_true rfl⟩ ⟨Nat.zero_le _, Nat.zero_le _⟩ (st1 := []) (Nat.le_of_ble_eq_true rfl) dX12_feed_39 (fun w9 v10 h => ?_)
    refine V_aload_n X (i := 0) 0 dX12_feed_42 rfl rfl ?_
    refine G_12_151 X hZ dX12_feed_43 ?_
    exact V_iret_m X hr dX12_feed_46 h
  · have h := hf c
    refine V_iconst X (v := (-1 : Int32)) dX12_feed_13 (by decide) ?_
    exact V_iret_m X hr dX12_feed_14 h
theorem c_12_feed {a1 : Int32} {a2 : Int32} {a3 : Int32} {a4 : Int32} {a5 : Int32} (hinj : INJ ad) (hZ : ad 1000 = 189) {w : Mem} {wl : MemL} {Q : Int32 → Mem → MemL → Prop} (h : wp_12_feed a1 a2 a3 a4 a5 w wl Q) : Met l yX12_feed (TBq yX12_feed cX12_feed 6 (some .int)) (RM 1) (va_Pc [.ref (ad 150), .int a1, .int a2, .int a3, .int a4, .int a5] (PB ad cy D (cmb wc w) wl)) (va_Qi (fun r (u : Mem × MemL) => Q r u.1 u.2) (BM ad cy D wc) (AW ad)) 0 0 (AW ad) := M_enter (by decide) (Nat.le_of_ble_eq_true rfl) hinj (fun p e s m args below meth c X hr => v_12_feed X hr hZ h)
theorem mf_12_feed : MFV yX12_feed cX12_feed 6 (some .int) yX12_feed.cls 5 := ⟨q_1435, q_1433, q_1434, q_14, by decide⟩
theorem K_12_feed {own : String} {idx : Nat} {a1 : Int32} {a2 : Int32} {a3 : Int32} {a4 : Int32} {a5 : Int32} (X : CXq p s m args meth c cc nL own ad cy D A H0) (hL : LK own idx yX12_feed) (hZ : ad 1000 = 189) {w : Mem} {wl : MemL} {Q : Int32 → Mem → MemL → Prop} (h : wp_12_feed a1 a2 a3 a4 a5 w wl Q) (hR : (RM 1).frames + 1 ≤ R.frames ∧ 8 + (6 + 11) + (RM 1).locals ≤ R.locals) (hce : ce ≤ R.cells ∧ sl ≤ R.slots) (hcat : (st1.map fun v => v.category).sum ≤ 8) (hd : decode cc pc = .ok (.invokevirtual idx, 3)) (kk : ∀ (r : Int32) (u : Mem) (v : MemL), Q r u v → V p l e R s m args below meth c nL ad cy D A H0 ce sl Qs wc u v (pc + 3) ls (.int r :: st1)) : V p l e R s m args below meth c nL ad cy D A H0 ce sl Qs wc w wl pc ls (.int a5 :: .int a4 :: .int a3 :: .int a2 :: .int a1 :: .ref (ad 150) :: st1) := V_callVI_m X mf_12_feed hL (rfl : vwCl[12]? = some (RX12, TX12, 72)) (by decide) (rfl : SK 150 = 12) (hzk hZ (by decide)).2 (c_12_feed X.2.2.2.2.2.2.2.1 hZ h) (As := [.int a1, .int a2, .int a3, .int a4, .int a5]) rfl ⟨rfl, rfl⟩ hR hce st1 rfl hcat hd kk
set_option maxRecDepth 20000 in
theorem v_12_back {a1 : Int32} (X : CXq p s m args meth c cX12_back 2 yX12_back.cls ad cy D (AW ad) s.heap) (hr : meth.sig.returnType = (some .int)) (hZ : ad 1000 = 189) {w : Mem} {wl : MemL} {Q : Int32 → Mem → MemL → Prop} (h : wp_12_back a1 w wl Q) : V p l e (RM 0) s m args below meth c 2 ad cy D (AW ad) s.heap 0 0 (MQ below (va_Qi (fun r (u : Mem × MemL) => Q r u.1 u.2) (BM ad cy D wc) (AW ad)) args s 0 0 (AW ad)) wc w wl 0 [(0, .ref (ad 150)), (1, .int a1)] [] := by
  unfold wp_12_back at h
  refine V_iload_n X (i := 1) 1 dX12_back_0 rfl rfl ?_
  obtain ⟨ht, hf⟩ := h
  refine V_if_lt X (tgt := 12) dX12_back_1 (by decide) (fun c => ?_) (fun c => ?_)
  · have h := ht c
    refine V_iconst X (v := (-1 : Int32)) dX12_back_12 (by decide) ?_
    exact V_iret_m X hr dX12_back_13 h
  · have h := hf c
    refine V_iload_n X (i := 1) 1 dX12_back_4 rfl rfl ?_
    refine V_aload_n X (i := 0) 0 dX12_back_5 rfl rfl ?_
    refine G_12_151 X hZ dX12_back_6 ?_
    obtain ⟨ht, hf⟩ := h
    refine V_icmp_le X (tgt := 14) dX12_back_9 (by decide) (fun c => ?_) (fun c => ?_)
    · have h := ht c
      refine V_aload_n X (i := 0) 0 dX12_back_14 rfl rfl ?_
      refine V_dup X dX12_back_15 rfl ?_
      refine G_12_151 X hZ dX12_back_16 ?_
      refine V_iload_n X (i := 1) 1 dX12_back_19 rfl rfl ?_
      refine V_isub X dX12_back_20 ?_
      obtain ⟨w1, ew1⟩ : ∃ y : Mem, y = st w 150 2 ((w 150 2) - a1) := ⟨_, rfl⟩
      have h := h w1 ew1
      refine U_12_151 X hZ rfl rfl dX12_back_21 ew1 ?_
      refine V_aload_n X (i := 0) 0 dX12_back_24 rfl rfl ?_
      refine G_12_151 X hZ dX12_back_25 ?_
      exact V_iret_m X hr dX12_back_28 h
    · have h := hf c
      refine V_iconst X (v := (-1 : Int32)) dX12_back_12 (by decide) ?_
      exact V_iret_m X hr dX12_back_13 h
theorem c_12_back {a1 : Int32} (hinj : INJ ad) (hZ : ad 1000 = 189) {w : Mem} {wl : MemL} {Q : Int32 → Mem → MemL → Prop} (h : wp_12_back a1 w wl Q) : Met l yX12_back (TBq yX12_back cX12_back 2 (some .int)) (RM 0) (va_Pc [.ref (ad 150), .int a1] (PB ad cy D (cmb wc w) wl)) (va_Qi (fun r (u : Mem × MemL) => Q r u.1 u.2) (BM ad cy D wc) (AW ad)) 0 0 (AW ad) := M_enter (by decide) (Nat.le_of_ble_eq_true rfl) hinj (fun p e s m args below meth c X hr => v_12_back X hr hZ h)
theorem mf_12_back : MFV yX12_back cX12_back 2 (some .int) yX12_back.cls 1 := ⟨q_1443, q_1441, q_1442, q_14, by decide⟩
theorem K_12_back {own : String} {idx : Nat} {a1 : Int32} (X : CXq p s m args meth c cc nL own ad cy D A H0) (hL : LK own idx yX12_back) (hZ : ad 1000 = 189) {w : Mem} {wl : MemL} {Q : Int32 → Mem → MemL → Prop} (h : wp_12_back a1 w wl Q) (hR : (RM 0).frames + 1 ≤ R.frames ∧ 8 + (2 + 11) + (RM 0).locals ≤ R.locals) (hce : ce ≤ R.cells ∧ sl ≤ R.slots) (hcat : (st1.map fun v => v.category).sum ≤ 8) (hd : decode cc pc = .ok (.invokevirtual idx, 3)) (kk : ∀ (r : Int32) (u : Mem) (v : MemL), Q r u v → V p l e R s m args below meth c nL ad cy D A H0 ce sl Qs wc u v (pc + 3) ls (.int r :: st1)) : V p l e R s m args below meth c nL ad cy D A H0 ce sl Qs wc w wl pc ls (.int a1 :: .ref (ad 150) :: st1) := V_callVI_m X mf_12_back hL (rfl : vwCl[12]? = some (RX12, TX12, 72)) (by decide) (rfl : SK 150 = 12) (hzk hZ (by decide)).2 (c_12_back X.2.2.2.2.2.2.2.1 hZ h) (As := [.int a1]) rfl ⟨rfl, rfl⟩ hR hce st1 rfl hcat hd kk
set_option maxRecDepth 20000 in
theorem v_12_byteAt {a1 : Int32} (X : CXq p s m args meth c cX12_byteAt 2 yX12_byteAt.cls ad cy D (AW ad) s.heap) (hr : meth.sig.returnType = (some .int)) (hZ : ad 1000 = 189) {w : Mem} {wl : MemL} {Q : Int32 → Mem → MemL → Prop} (h : wp_12_byteAt a1 w wl Q) : V p l e (RM 0) s m args below meth c 2 ad cy D (AW ad) s.heap 0 0 (MQ below (va_Qi (fun r (u : Mem × MemL) => Q r u.1 u.2) (BM ad cy D wc) (AW ad)) args s 0 0 (AW ad)) wc w wl 0 [(0, .ref (ad 150)), (1, .int a1)] [] := by
  unfold wp_12_byteAt at h
  refine V_iload_n X (i := 1) 1 dX12_byteAt_0 rfl rfl ?_
  refine V_aload_n X (i := 0) 0 dX12_byteAt_1 rfl rfl ?_
  refine G_12_157 X hZ dX12_byteAt_2 ?_
  obtain ⟨ht, hf⟩ := h
  refine V_icmp_ge X (tgt := 21) dX12_byteAt_5 (by decide) (fun c => ?_) (fun c => ?_)
  · have h := ht c
    refine V_iconst X (v := (0 : Int32)) dX12_byteAt_21 (by decide) ?_
    exact V_iret_m X hr dX12_byteAt_22 h
  · have h := hf c
    refine V_aload_n X (i := 0) 0 dX12_byteAt_8 rfl rfl ?_
    refine G_12_17 X hZ dX12_byteAt_9 ?_
    refine V_iload_n X (i := 1) 1 dX12_byteAt_12 rfl rfl ?_
    obtain ⟨g1, h⟩ := h
    refine V_bald_m X (rfl : SLq 152 = 2000) (hzk hZ (by decide)) (rfl : SK 152 = 13) g1 dX12_byteAt_13 ?_
    refine V_sipush X (v := (255 : Int32)) dX12_byteAt_14 (by decide) ?_
    refine V_iand X dX12_byteAt_17 ?_
    refine V_goto X (tgt := 22) dX12_byteAt_18 (by decide) ?_
    exact V_iret_m X hr dX12_byteAt_22 h
theorem c_12_byteAt {a1 : Int32} (hinj : INJ ad) (hZ : ad 1000 = 189) {w : Mem} {wl : MemL} {Q : Int32 → Mem → MemL → Prop} (h : wp_12_byteAt a1 w wl Q) : Met l yX12_byteAt (TBq yX12_byteAt cX12_byteAt 2 (some .int)) (RM 0) (va_Pc [.ref (ad 150), .int a1] (PB ad cy D (cmb wc w) wl)) (va_Qi (fun r (u : Mem × MemL) => Q r u.1 u.2) (BM ad cy D wc) (AW ad)) 0 0 (AW ad) := M_enter (by decide) (Nat.le_of_ble_eq_true rfl) hinj (fun p e s m args below meth c X hr => v_12_byteAt X hr hZ h)
theorem mf_12_byteAt : MFV yX12_byteAt cX12_byteAt 2 (some .int) yX12_byteAt.cls 1 := ⟨q_1455, q_1454, qs_44, q_14, by decide⟩
theorem K_12_byteAt {own : String} {idx : Nat} {a1 : Int32} (X : CXq p s m args meth c cc nL own ad cy D A H0) (hL : LK own idx yX12_byteAt) (hZ : ad 1000 = 189) {w : Mem} {wl : MemL} {Q : Int32 → Mem → MemL → Prop} (h : wp_12_byteAt a1 w wl Q) (hR : (RM 0).frames + 1 ≤ R.frames ∧ 8 + (2 + 11) + (RM 0).locals ≤ R.locals) (hce : ce ≤ R.cells ∧ sl ≤ R.slots) (hcat : (st1.map fun v => v.category).sum ≤ 8) (hd : decode cc pc = .ok (.invokevirtual idx, 3)) (kk : ∀ (r : Int32) (u : Mem) (v : MemL), Q r u v → V p l e R s m args below meth c nL ad cy D A H0 ce sl Qs wc u v (pc + 3) ls (.int r :: st1)) : V p l e R s m args below meth c nL ad cy D A H0 ce sl Qs wc w wl pc ls (.int a1 :: .ref (ad 150) :: st1) := V_callVI_m X mf_12_byteAt hL (rfl : vwCl[12]? = some (RX12, TX12, 72)) (by decide) (rfl : SK 150 = 12) (hzk hZ (by decide)).2 (c_12_byteAt X.2.2.2.2.2.2.2.1 hZ h) (As := [.int a1]) rfl ⟨rfl, rfl⟩ hR hce st1 rfl hcat hd kk
set_option maxRecDepth 20000 in
theorem v_12_isDigit_b16 (X : CXq p s m args meth c cX12_isDigit 1 yX12_isDigit.cls ad cy D (AW ad) s.heap) (hr : meth.sig.returnType = (some .boolean)) (hZ : ad 1000 = 189) {Q : Int32 → Mem → MemL → Prop} : ∀ (w : Mem) (wl : MemL), wp_12_isDigit_b16 Q w wl → V p l e (RM 0) s m args below meth c 1 ad cy D (AW ad) s.heap 0 0 (MQ below (va_Qi (fun r (u : Mem × MemL) => Q r u.1 u.2) (BM ad cy D wc) (AW ad)) args s 0 0 (AW ad)) wc w wl 16 [] [] := by
  intro w wl h
  unfold wp_12_isDigit_b16 at h
  refine V_iconst X (v := (0 : Int32)) dX12_isDigit_16 (by decide) ?_
  exact V_zret_m X hr dX12_isDigit_17 rfl h
set_option maxRecDepth 20000 in
theorem v_12_isDigit {a1 : Int32} (X : CXq p s m args meth c cX12_isDigit 1 yX12_isDigit.cls ad cy D (AW ad) s.heap) (hr : meth.sig.returnType = (some .boolean)) (hZ : ad 1000 = 189) {w : Mem} {wl : MemL} {Q : Int32 → Mem → MemL → Prop} (h : wp_12_isDigit a1 w wl Q) : V p l e (RM 0) s m args below meth c 1 ad cy D (AW ad) s.heap 0 0 (MQ below (va_Qi (fun r (u : Mem × MemL) => Q r u.1 u.2) (BM ad cy D wc) (AW ad)) args s 0 0 (AW ad)) wc w wl 0 [(0, .int a1)] [] := by
  unfold wp_12_isDigit at h
  refine V_iload_n X (i := 0) 0 dX12_isDigit_0 rfl rfl ?_
  refine V_bipush X (v := (48 : Int32)) dX12_isDigit_1 (by decide) ?_
  obtain ⟨ht, hf⟩ := h
  refine V_icmp_lt X (tgt := 16) dX12_isDigit_3 (by decide) (fun c => ?_) (fun c => ?_)
  · have h := ht c
    refine V_sub X (ls1 := []) [] rfl ?_
    exact v_12_isDigit_b16 X hr hZ _ _ h
  · have h := hf c
    refine V_iload_n X (i := 0) 0 dX12_isDigit_6 rfl rfl ?_
    refine V_bipush X (v := (57 : Int32)) dX12_isDigit_7 (by decide) ?_
    obtain ⟨ht, hf⟩ := h
    refine V_icmp_gt X (tgt := 16) dX12_isDigit_9 (by decide) (fun c => ?_) (fun c => ?_)
    · have h := ht c
      refine V_sub X (ls1 := []) [] rfl ?_
      exact v_12_isDigit_b16 X hr hZ _ _ h
    · have h := hf c
      refine V_iconst X (v := (1 : Int32)) dX12_isDigit_12 (by decide) ?_
      refine V_goto X (tgt := 17) dX12_isDigit_13 (by decide) ?_
      exact V_zret_m X hr dX12_isDigit_17 rfl h
theorem c_12_isDigit {a1 : Int32} (hinj : INJ ad) (hZ : ad 1000 = 189) {w : Mem} {wl : MemL} {Q : Int32 → Mem → MemL → Prop} (h : wp_12_isDigit a1 w wl Q) : Met l yX12_isDigit (TBq yX12_isDigit cX12_isDigit 1 (some .boolean)) (RM 0) (va_Pc [.int a1] (PB ad cy D (cmb wc w) wl)) (va_Qi (fun r (u : Mem × MemL) => Q r u.1 u.2) (BM ad cy D wc) (AW ad)) 0 0 (AW ad) := M_enter (by decide) (Nat.le_of_ble_eq_true rfl) hinj (fun p e s m args below meth c X hr => v_12_isDigit X hr hZ h)
theorem mf_12_isDigit : MFS yX12_isDigit cX12_isDigit 1 (some .boolean) 1 := ⟨q_1465, q_1464, q_14, by decide⟩
theorem K_12_isDigit {own : String} {idx : Nat} {a1 : Int32} (X : CXq p s m args meth c cc nL own ad cy D A H0) (hL : LK own idx yX12_isDigit) (hZ : ad 1000 = 189) {w : Mem} {wl : MemL} {Q : Int32 → Mem → MemL → Prop} (h : wp_12_isDigit a1 w wl Q) (hR : (RM 0).frames + 1 ≤ R.frames ∧ 8 + (1 + 11) + (RM 0).locals ≤ R.locals) (hce : ce ≤ R.cells ∧ sl ≤ R.slots) (hcat : (st1.map fun v => v.category).sum ≤ 8) (hd : decode cc pc = .ok (.invokestatic idx, 3)) (kk : ∀ (r : Int32) (u : Mem) (v : MemL), Q r u v → V p l e R s m args below meth c nL ad cy D A H0 ce sl Qs wc u v (pc + 3) ls (.int r :: st1)) : V p l e R s m args below meth c nL ad cy D A H0 ce sl Qs wc w wl pc ls (.int a1 :: st1) := V_callSI_m X mf_12_isDigit hL (c_12_isDigit X.2.2.2.2.2.2.2.1 hZ h) (As := [.int a1]) rfl ⟨rfl, rfl⟩ hR hce st1 rfl hcat hd kk
set_option maxRecDepth 20000 in
theorem v_12_isLetter_b16 (X : CXq p s m args meth c cX12_isLetter 1 yX12_isLetter.cls ad cy D (AW ad) s.heap) (hr : meth.sig.returnType = (some .boolean)) (hZ : ad 1000 = 189) {Q : Int32 → Mem → MemL → Prop} : ∀ (w : Mem) (wl : MemL), wp_12_isLetter_b16 Q w wl → V p l e (RM 0) s m args below meth c 1 ad cy D (AW ad) s.heap 0 0 (MQ below (va_Qi (fun r (u : Mem × MemL) => Q r u.1 u.2) (BM ad cy D wc) (AW ad)) args s 0 0 (AW ad)) wc w wl 16 [] [] := by
  intro w wl h
  unfold wp_12_isLetter_b16 at h
  refine V_iconst X (v := (0 : Int32)) dX12_isLetter_16 (by decide) ?_
  exact V_zret_m X hr dX12_isLetter_17 rfl h
set_option maxRecDepth 20000 in
theorem v_12_isLetter {a1 : Int32} (X : CXq p s m args meth c cX12_isLetter 1 yX12_isLetter.cls ad cy D (AW ad) s.heap) (hr : meth.sig.returnType = (some .boolean)) (hZ : ad 1000 = 189) {w : Mem} {wl : MemL} {Q : Int32 → Mem → MemL → Prop} (h : wp_12_isLetter a1 w wl Q) : V p l e (RM 0) s m args below meth c 1 ad cy D (AW ad) s.heap 0 0 (MQ below (va_Qi (fun r (u : Mem × MemL) => Q r u.1 u.2) (BM ad cy D wc) (AW ad)) args s 0 0 (AW ad)) wc w wl 0 [(0, .int a1)] [] := by
  unfold wp_12_isLetter at h
  refine V_iload_n X (i := 0) 0 dX12_isLetter_0 rfl rfl ?_
  refine V_bipush X (v := (97 : Int32)) dX12_isLetter_1 (by decide) ?_
  obtain ⟨ht, hf⟩ := h
  refine V_icmp_lt X (tgt := 16) dX12_isLetter_3 (by decide) (fun c => ?_) (fun c => ?_)
  · have h := ht c
    refine V_sub X (ls1 := []) [] rfl ?_
    exact v_12_isLetter_b16 X hr hZ _ _ h
  · have h := hf c
    refine V_iload_n X (i := 0) 0 dX12_isLetter_6 rfl rfl ?_
    refine V_bipush X (v := (122 : Int32)) dX12_isLetter_7 (by decide) ?_
    obtain ⟨ht, hf⟩ := h
    refine V_icmp_gt X (tgt := 16) dX12_isLetter_9 (by decide) (fun c => ?_) (fun c => ?_)
    · have h := ht c
      refine V_sub X (ls1 := []) [] rfl ?_
      exact v_12_isLetter_b16 X hr hZ _ _ h
    · have h := hf c
      refine V_iconst X (v := (1 : Int32)) dX12_isLetter_12 (by decide) ?_
      refine V_goto X (tgt := 17) dX12_isLetter_13 (by decide) ?_
      exact V_zret_m X hr dX12_isLetter_17 rfl h
theorem c_12_isLetter {a1 : Int32} (hinj : INJ ad) (hZ : ad 1000 = 189) {w : Mem} {wl : MemL} {Q : Int32 → Mem → MemL → Prop} (h : wp_12_isLetter a1 w wl Q) : Met l yX12_isLetter (TBq yX12_isLetter cX12_isLetter 1 (some .boolean)) (RM 0) (va_Pc [.int a1] (PB ad cy D (cmb wc w) wl)) (va_Qi (fun r (u : Mem × MemL) => Q r u.1 u.2) (BM ad cy D wc) (AW ad)) 0 0 (AW ad) := M_enter (by decide) (Nat.le_of_ble_eq_true rfl) hinj (fun p e s m args below meth c X hr => v_12_isLetter X hr hZ h)
theorem mf_12_isLetter : MFS yX12_isLetter cX12_isLetter 1 (some .boolean) 1 := ⟨q_1462, q_1461, q_14, by decide⟩
theorem K_12_isLetter {own : String} {idx : Nat} {a1 : Int32} (X : CXq p s m args meth c cc nL own ad cy D A H0) (hL : LK own idx yX12_isLetter) (hZ : ad 1000 = 189) {w : Mem} {wl : MemL} {Q : Int32 → Mem → MemL → Prop} (h : wp_12_isLetter a1 w wl Q) (hR : (RM 0).frames + 1 ≤ R.frames ∧ 8 + (1 + 11) + (RM 0).locals ≤ R.locals) (hce : ce ≤ R.cells ∧ sl ≤ R.slots) (hcat : (st1.map fun v => v.category).sum ≤ 8) (hd : decode cc pc = .ok (.invokestatic idx, 3)) (kk : ∀ (r : Int32) (u : Mem) (v : MemL), Q r u v → V p l e R s m args below meth c nL ad cy D A H0 ce sl Qs wc u v (pc + 3) ls (.int r :: st1)) : V p l e R s m args below meth c nL ad cy D A H0 ce sl Qs wc w wl pc ls (.int a1 :: st1) := V_callSI_m X mf_12_isLetter hL (c_12_isLetter X.2.2.2.2.2.2.2.1 hZ h) (As := [.int a1]) rfl ⟨rfl, rfl⟩ hR hce st1 rfl hcat hd kk
set_option maxRecDepth 20000 in
theorem v_12_appends {a1 : Int64} {a2 : Int32} (X : CXq p s m args meth c cX12_appends 3 yX12_appends.cls ad cy D (AW ad) s.heap) (hr : meth.sig.returnType = (some .long)) (hZ : ad 1000 = 189) {w : Mem} {wl : MemL} {Q : Int64 → Mem → MemL → Prop} (h : wp_12_appends a1 a2 w wl Q) : V p l e (RM 0) s m args below meth c 3 ad cy D (AW ad) s.heap 0 0 (MQ below (va_Ql (fun r (u : Mem × MemL) => Q r u.1 u.2) (BM ad cy D wc) (AW ad)) args s 0 0 (AW ad)) wc w wl 0 [(0, .long a1), (2, .int a2)] [] := by
  unfold wp_12_appends at h
  refine V_iload_n X (i := 2) 1 dX12_appends_0 rfl rfl ?_
  obtain ⟨ht, hf⟩ := h
  refine V_if_ne X (tgt := 8) dX12_appends_1 (by decide) (fun c => ?_) (fun c => ?_)
  · have h := ht c
    refine V_ldc2 X (v := (27 : Int64)) dX12_appends_8 q_1198 ?_
    refine V_lload_n X (i := 0) 0 dX12_appends_11 rfl rfl ?_
    refine V_lmul X dX12_appends_12 ?_
    refine V_iload_n X (i := 2) 1 dX12_appends_13 rfl rfl ?_
    refine V_bipush X (v := (97 : Int32)) dX12_appends_14 (by decide) ?_
    refine V_isub X dX12_appends_16 ?_
    refine V_iconst X (v := (1 : Int32)) dX12_appends_17 (by decide) ?_
    refine V_iadd X dX12_appends_18 ?_
    refine V_i2l X dX12_appends_19 ?_
    refine V_ladd X dX12_appends_20 ?_
    exact V_lret_m X hr dX12_appends_21 h
  · have h := hf c
    refine V_lload_n X (i := 0) 0 dX12_appends_4 rfl rfl ?_
    refine V_goto X (tgt := 21) dX12_appends_5 (by decide) ?_
    exact V_lret_m X hr dX12_appends_21 h
theorem c_12_appends {a1 : Int64} {a2 : Int32} (hinj : INJ ad) (hZ : ad 1000 = 189) {w : Mem} {wl : MemL} {Q : Int64 → Mem → MemL → Prop} (h : wp_12_appends a1 a2 w wl Q) : Met l yX12_appends (TBq yX12_appends cX12_appends 3 (some .long)) (RM 0) (va_Pc [.long a1, .int a2] (PB ad cy D (cmb wc w) wl)) (va_Ql (fun r (u : Mem × MemL) => Q r u.1 u.2) (BM ad cy D wc) (AW ad)) 0 0 (AW ad) := M_enter (by decide) (Nat.le_of_ble_eq_true rfl) hinj (fun p e s m args below meth c X hr => v_12_appends X hr hZ h)
theorem mf_12_appends : MFS yX12_appends cX12_appends 3 (some .long) 2 := ⟨q_1197, q_1196, q_14, by decide⟩
theorem K_12_appends {own : String} {idx : Nat} {a1 : Int64} {a2 : Int32} (X : CXq p s m args meth c cc nL own ad cy D A H0) (hL : LK own idx yX12_appends) (hZ : ad 1000 = 189) {w : Mem} {wl : MemL} {Q : Int64 → Mem → MemL → Prop} (h : wp_12_appends a1 a2 w wl Q) (hR : (RM 0).frames + 1 ≤ R.frames ∧ 8 + (3 + 11) + (RM 0).locals ≤ R.locals) (hce : ce ≤ R.cells ∧ sl ≤ R.slots) (hcat : (st1.map fun v => v.category).sum ≤ 8) (hd : decode cc pc = .ok (.invokestatic idx, 3)) (kk : ∀ (r : Int64) (u : Mem) (v : MemL), Q r u v → V p l e R s m args below meth c nL ad cy D A H0 ce sl Qs wc u v (pc + 3) ls (.long r :: st1)) : V p l e R s m args below meth c nL ad cy D A H0 ce sl Qs wc w wl pc ls (.int a2 :: .long a1 :: st1) := V_callSL_m X mf_12_appends hL (c_12_appends X.2.2.2.2.2.2.2.1 hZ h) (As := [.long a1, .int a2]) rfl ⟨rfl, rfl⟩ hR hce st1 rfl hcat hd kk
set_option maxRecDepth 20000 in
theorem v_12_word {a1 : Int32} {a2 : Int32} {a3 : Int32} {a4 : Int32} {a5 : Int32} {a6 : Int32} {a7 : Int32} (X : CXq p s m args meth c cX12_word 7 yX12_word.cls ad cy D (AW ad) s.heap) (hr : meth.sig.returnType = (some .long)) (hZ : ad 1000 = 189) {w : Mem} {wl : MemL} {Q : Int64 → Mem → MemL → Prop} (h : wp_12_word a1 a2 a3 a4 a5 a6 a7 w wl Q) : V p l e (RM 1) s m args below meth c 7 ad cy D (AW ad) s.heap 0 0 (MQ below (va_Ql (fun r (u : Mem × MemL) => Q r u.1 u.2) (BM ad cy D wc) (AW ad)) args s 0 0 (AW ad)) wc w wl 0 [(0, .int a1), (1, .int a2), (2, .int a3), (3, .int a4), (4, .int a5), (5, .int a6), (6, .int a7)] [] := by
  unfold wp_12_word at h
  refine V_lconst X (v := (0 : Int64)) dX12_word_0 (by decide) ?_
  refine V_iload_n X (i := 0) 0 dX12_word_1 rfl rfl ?_
  refine K_12_appends X (Or.inl q_1195) hZ h ⟨Nat.le_of_ble_eq_true rfl, Nat.le_of_ble_eq_true rfl⟩ ⟨Nat.zero_le _, Nat.zero_le _⟩ (st1 := []) (Nat.le_of_ble_eq_true rfl) dX12_word_2 (fun r2 w1 v3 h => ?_)
  refine V_iload_n X (i := 1) 1 dX12_word_5 rfl rfl ?_
  refine K_12_appends X (Or.inl q_1195) hZ h ⟨Nat.le_of_ble_eq_true rfl, Nat.le_of_ble_eq_true rfl⟩ ⟨Nat.zero_le _, Nat.zero_le _⟩ (st1 := []) (Nat.le_of_ble_eq_true rfl) dX12_word_6 (fun r5 w4 v6 h => ?_)
  refine V_iload_n X (i := 2) 2 dX12_word_9 rfl rfl ?_
  refine K_12_appends X (Or.inl q_1195) hZ h ⟨Nat.le_of_ble_eq_true rfl, Nat.le_of_ble_eq_true rfl⟩ ⟨Nat.zero_le _, Nat.zero_le _⟩ (st1 := []) (Nat.le_of_ble_eq_true rfl) dX12_word_10 (fun r8 w7 v9 h => ?_)
  refine V_iload_n X (i := 3) 3 dX12_word_13 rfl rfl ?_
  refine K_12_appends X (Or.inl q_1195) hZ h ⟨Nat.le_of_ble_eq_true rfl, Nat.le_of_ble_eq_true rfl⟩ ⟨Nat.zero_le _, Nat.zero_le _⟩ (st1 := []) (Nat.le_of_ble_eq_true rfl) dX12_word_14 (fun r11 w10 v12 h => ?_)
  refine V_iload X (i := 4) 4 dX12_word_17 rfl ?_
  refine K_12_appends X (Or.inl q_1195) hZ h ⟨Nat.le_of_ble_eq_true rfl, Nat.le_of_ble_eq_true rfl⟩ ⟨Nat.zero_le _, Nat.zero_le _⟩ (st1 := []) (Nat.le_of_ble_eq_true rfl) dX12_word_19 (fun r14 w13 v15 h => ?_)
  refine V_iload X (i := 5) 5 dX12_word_22 rfl ?_
  refine K_12_appends X (Or.inl q_1195) hZ h ⟨Nat.le_of_ble_eq_true rfl, Nat.le_of_ble_eq_true rfl⟩ ⟨Nat.zero_le _, Nat.zero_le _⟩ (st1 := []) (Nat.le_of_ble_eq_true rfl) dX12_word_24 (fun r17 w16 v18 h => ?_)
  refine V_iload X (i := 6) 6 dX12_word_27 rfl ?_
  refine K_12_appends X (Or.inl q_1195) hZ h ⟨Nat.le_of_ble_eq_true rfl, Nat.le_of_ble_eq_true rfl⟩ ⟨Nat.zero_le _, Nat.zero_le _⟩ (st1 := []) (Nat.le_of_ble_eq_true rfl) dX12_word_29 (fun r20 w19 v21 h => ?_)
  exact V_lret_m X hr dX12_word_32 h
theorem c_12_word {a1 : Int32} {a2 : Int32} {a3 : Int32} {a4 : Int32} {a5 : Int32} {a6 : Int32} {a7 : Int32} (hinj : INJ ad) (hZ : ad 1000 = 189) {w : Mem} {wl : MemL} {Q : Int64 → Mem → MemL → Prop} (h : wp_12_word a1 a2 a3 a4 a5 a6 a7 w wl Q) : Met l yX12_word (TBq yX12_word cX12_word 7 (some .long)) (RM 1) (va_Pc [.int a1, .int a2, .int a3, .int a4, .int a5, .int a6, .int a7] (PB ad cy D (cmb wc w) wl)) (va_Ql (fun r (u : Mem × MemL) => Q r u.1 u.2) (BM ad cy D wc) (AW ad)) 0 0 (AW ad) := M_enter (by decide) (Nat.le_of_ble_eq_true rfl) hinj (fun p e s m args below meth c X hr => v_12_word X hr hZ h)
theorem mf_12_word : MFS yX12_word cX12_word 7 (some .long) 7 := ⟨q_1194, q_1193, q_14, by decide⟩
theorem K_12_word {own : String} {idx : Nat} {a1 : Int32} {a2 : Int32} {a3 : Int32} {a4 : Int32} {a5 : Int32} {a6 : Int32} {a7 : Int32} (X : CXq p s m args meth c cc nL own ad cy D A H0) (hL : LK own idx yX12_word) (hZ : ad 1000 = 189) {w : Mem} {wl : MemL} {Q : Int64 → Mem → MemL → Prop} (h : wp_12_word a1 a2 a3 a4 a5 a6 a7 w wl Q) (hR : (RM 1).frames + 1 ≤ R.frames ∧ 8 + (7 + 11) + (RM 1).locals ≤ R.locals) (hce : ce ≤ R.cells ∧ sl ≤ R.slots) (hcat : (st1.map fun v => v.category).sum ≤ 8) (hd : decode cc pc = .ok (.invokestatic idx, 3)) (kk : ∀ (r : Int64) (u : Mem) (v : MemL), Q r u v → V p l e R s m args below meth c nL ad cy D A H0 ce sl Qs wc u v (pc + 3) ls (.long r :: st1)) : V p l e R s m args below meth c nL ad cy D A H0 ce sl Qs wc w wl pc ls (.int a7 :: .int a6 :: .int a5 :: .int a4 :: .int a3 :: .int a2 :: .int a1 :: st1) := V_callSL_m X mf_12_word hL (c_12_word X.2.2.2.2.2.2.2.1 hZ h) (As := [.int a1, .int a2, .int a3, .int a4, .int a5, .int a6, .int a7]) rfl ⟨rfl, rfl⟩ hR hce st1 rfl hcat hd kk
set_option maxRecDepth 20000 in
theorem v_12_token {a1 : Int32} {a2 : Int32} {a3 : Int32} {a4 : Int64} (X : CXq p s m args meth c cX12_token 6 yX12_token.cls ad cy D (AW ad) s.heap) (hr : meth.sig.returnType = none) (hZ : ad 1000 = 189) {w : Mem} {wl : MemL} {Q : Mem → MemL → Prop} (h : wp_12_token a1 a2 a3 a4 w wl Q) : V p l e (RM 0) s m args below meth c 6 ad cy D (AW ad) s.heap 0 0 (MQ below (va_Qv (fun (u : Mem × MemL) => Q u.1 u.2) (BM ad cy D wc) (AW ad)) args s 0 0 (AW ad)) wc w wl 0 [(0, .ref (ad 150)), (1, .int a1), (2, .int a2), (3, .int a3), (4, .long a4)] [] := by
  unfold wp_12_token at h
  refine V_aload_n X (i := 0) 0 dX12_token_0 rfl rfl ?_
  refine G_12_20 X hZ dX12_token_1 ?_
  refine V_aload_n X (i := 0) 0 dX12_token_4 rfl rfl ?_
  refine G_12_166 X hZ dX12_token_5 ?_
  refine V_iload_n X (i := 1) 1 dX12_token_8 rfl rfl ?_
  obtain ⟨g1, h⟩ := h
  obtain ⟨w2, ew2⟩ : ∃ y : Mem, y = st w 153 (ix (w 150 10)) a1 := ⟨_, rfl⟩
  have h := h w2 ew2
  refine V_iast_m X (rfl : SLq 153 = 403) (hzk hZ (by decide)) (rfl : SK 153 = 14) g1 dX12_token_9 ew2 ?_
  refine V_aload_n X (i := 0) 0 dX12_token_10 rfl rfl ?_
  refine G_12_24 X hZ dX12_token_11 ?_
  refine V_aload_n X (i := 0) 0 dX12_token_14 rfl rfl ?_
  refine G_12_166 X hZ dX12_token_15 ?_
  refine V_iload_n X (i := 2) 2 dX12_token_18 rfl rfl ?_
  obtain ⟨g3, h⟩ := h
  obtain ⟨w4, ew4⟩ : ∃ y : Mem, y = st w2 154 (ix (w2 150 10)) a2 := ⟨_, rfl⟩
  have h := h w4 ew4
  refine V_iast_m X (rfl : SLq 154 = 403) (hzk hZ (by decide)) (rfl : SK 154 = 14) g3 dX12_token_19 ew4 ?_
  refine V_aload_n X (i := 0) 0 dX12_token_20 rfl rfl ?_
  refine G_12_27 X hZ dX12_token_21 ?_
  refine V_aload_n X (i := 0) 0 dX12_token_24 rfl rfl ?_
  refine G_12_166 X hZ dX12_token_25 ?_
  refine V_iload_n X (i := 3) 3 dX12_token_28 rfl rfl ?_
  obtain ⟨g5, h⟩ := h
  obtain ⟨w6, ew6⟩ : ∃ y : Mem, y = st w4 155 (ix (w4 150 10)) a3 := ⟨_, rfl⟩
  have h := h w6 ew6
  refine V_iast_m X (rfl : SLq 155 = 403) (hzk hZ (by decide)) (rfl : SK 155 = 14) g5 dX12_token_29 ew6 ?_
  refine V_aload_n X (i := 0) 0 dX12_token_30 rfl rfl ?_
  refine G_12_30 X hZ dX12_token_31 ?_
  refine V_aload_n X (i := 0) 0 dX12_token_34 rfl rfl ?_
  refine G_12_166 X hZ dX12_token_35 ?_
  refine V_lload X (i := 4) 4 dX12_token_38 rfl ?_
  obtain ⟨g7, h⟩ := h
  obtain ⟨v8, ev8⟩ : ∃ y : MemL, y = stL wl 156 (ix (w6 150 10)) a4 := ⟨_, rfl⟩
  have h := h v8 ev8
  refine V_last X (rfl : SLq 156 = 403) (hzk hZ (by decide)) (rfl : SK 156 = 15) g7 dX12_token_40 ev8 ?_
  refine V_aload_n X (i := 0) 0 dX12_token_41 rfl rfl ?_
  refine V_dup X dX12_token_42 rfl ?_
  refine G_12_166 X hZ dX12_token_43 ?_
  refine V_iconst X (v := (1 : Int32)) dX12_token_46 (by decide) ?_
  refine V_iadd X dX12_token_47 ?_
  obtain ⟨w9, ew9⟩ : ∃ y : Mem, y = st w6 150 10 ((w6 150 10) + (1 : Int32)) := ⟨_, rfl⟩
  have h := h w9 ew9
  refine U_12_166 X hZ rfl rfl dX12_token_48 ew9 ?_
  exact V_vret_m X hr dX12_token_51 h
theorem c_12_token {a1 : Int32} {a2 : Int32} {a3 : Int32} {a4 : Int64} (hinj : INJ ad) (hZ : ad 1000 = 189) {w : Mem} {wl : MemL} {Q : Mem → MemL → Prop} (h : wp_12_token a1 a2 a3 a4 w wl Q) : Met l yX12_token (TBq yX12_token cX12_token 6 none) (RM 0) (va_Pc [.ref (ad 150), .int a1, .int a2, .int a3, .long a4] (PB ad cy D (cmb wc w) wl)) (va_Qv (fun (u : Mem × MemL) => Q u.1 u.2) (BM ad cy D wc) (AW ad)) 0 0 (AW ad) := M_enter (by decide) (Nat.le_of_ble_eq_true rfl) hinj (fun p e s m args below meth c X hr => v_12_token X hr hZ h)
theorem mf_12_token : MFV yX12_token cX12_token 6 none yX12_token.cls 4 := ⟨q_1459, q_1458, qs_45, q_14, by decide⟩
theorem K_12_token {own : String} {idx : Nat} {a1 : Int32} {a2 : Int32} {a3 : Int32} {a4 : Int64} (X : CXq p s m args meth c cc nL own ad cy D A H0) (hL : LK own idx yX12_token) (hZ : ad 1000 = 189) {w : Mem} {wl : MemL} {Q : Mem → MemL → Prop} (h : wp_12_token a1 a2 a3 a4 w wl Q) (hR : (RM 0).frames + 1 ≤ R.frames ∧ 8 + (6 + 11) + (RM 0).locals ≤ R.locals) (hce : ce ≤ R.cells ∧ sl ≤ R.slots) (hcat : (st1.map fun v => v.category).sum ≤ 8) (hd : decode cc pc = .ok (.invokevirtual idx, 3)) (kk : ∀ (u : Mem) (v : MemL), Q u v → V p l e R s m args below meth c nL ad cy D A H0 ce sl Qs wc u v (pc + 3) ls st1) : V p l e R s m args below meth c nL ad cy D A H0 ce sl Qs wc w wl pc ls (.long a4 :: .int a3 :: .int a2 :: .int a1 :: .ref (ad 150) :: st1) := V_callVV_m X mf_12_token hL (rfl : vwCl[12]? = some (RX12, TX12, 72)) (by decide) (rfl : SK 150 = 12) (hzk hZ (by decide)).2 (c_12_token X.2.2.2.2.2.2.2.1 hZ h) (As := [.int a1, .int a2, .int a3, .long a4]) rfl ⟨rfl, rfl⟩ hR hce st1 rfl hcat hd kk
set_option maxRecDepth 20000 in
theorem v_12_sign_b95 (X : CXq p s m args meth c cX12_sign 5 yX12_sign.cls ad cy D (AW ad) s.heap) (hr : meth.sig.returnType = (some .int)) (hZ : ad 1000 = 189) {Q : Int32 → Mem → MemL → Prop} : ∀ (l1 : Int32) (l4 : Int32) (w : Mem) (wl : MemL), wp_12_sign_b95 Q l1 l4 w wl → V p l e (RM 1) s m args below meth c 5 ad cy D (AW ad) s.heap 0 0 (MQ below (va_Qi (fun r (u : Mem × MemL) => Q r u.1 u.2) (BM ad cy D wc) (AW ad)) args s 0 0 (AW ad)) wc w wl 95 [(0, .ref (ad 150)), (1, .int l1), (4, .int l4)] [] := by
  intro l1 l4 w wl h
  unfold wp_12_sign_b95 at h
  refine V_aload_n X (i := 0) 0 dX12_sign_95 rfl rfl ?_
  refine V_iload X (i := 4) 2 dX12_sign_96 rfl ?_
  refine V_iload_n X (i := 1) 1 dX12_sign_98 rfl rfl ?_
  refine V_iconst X (v := (0 : Int32)) dX12_sign_99 (by decide) ?_
  refine V_lconst X (v := (0 : Int64)) dX12_sign_100 (by decide) ?_
  refine K_12_token X (Or.inl q_1456) hZ h ⟨Nat.le_of_ble_eq_true rfl, Nat.le_of_ble_eq_true rfl⟩ ⟨Nat.zero_le _, Nat.zero_le _⟩ (st1 := []) (Nat.le_of_ble_eq_true rfl) dX12_sign_101 (fun w1 v2 h => ?_)
  refine V_iconst X (v := (1 : Int32)) dX12_sign_104 (by decide) ?_
  exact V_iret_m X hr dX12_sign_105 h
set_option maxRecDepth 20000 in
theorem v_12_sign_b85 (X : CXq p s m args meth c cX12_sign 5 yX12_sign.cls ad cy D (AW ad) s.heap) (hr : meth.sig.returnType = (some .int)) (hZ : ad 1000 = 189) {Q : Int32 → Mem → MemL → Prop} : ∀ (l1 : Int32) (l2 : Int32) (l4 : Int32) (w : Mem) (wl : MemL), wp_12_sign_b85 Q l1 l2 l4 w wl → V p l e (RM 1) s m args below meth c 5 ad cy D (AW ad) s.heap 0 0 (MQ below (va_Qi (fun r (u : Mem × MemL) => Q r u.1 u.2) (BM ad cy D wc) (AW ad)) args s 0 0 (AW ad)) wc w wl 85 [(0, .ref (ad 150)), (1, .int l1), (2, .int l2), (4, .int l4)] [] := by
  intro l1 l2 l4 w wl h
  unfold wp_12_sign_b85 at h
  refine V_iload_n X (i := 2) 2 dX12_sign_85 rfl rfl ?_
  refine V_bipush X (v := (60 : Int32)) dX12_sign_86 (by decide) ?_
  obtain ⟨ht, hf⟩ := h
  refine V_icmp_ne X (tgt := 95) dX12_sign_88 (by decide) (fun c => ?_) (fun c => ?_)
  · have h := ht c
    refine V_sub X (ls1 := [(0, .ref (ad 150)), (1, .int l1), (4, .int l4)]) [0, 1, 3] rfl ?_
    exact v_12_sign_b95 X hr hZ _ _ _ _ h
  · have h := hf c
    refine V_bipush X (v := (13 : Int32)) dX12_sign_91 (by decide) ?_
    refine V_istore X dX12_sign_93 (by decide) rfl (ls1 := [(4, .int (13 : Int32)), (0, .ref (ad 150)), (1, .int l1), (2, .int l2)]) rfl ?_
    refine V_sub X (ls1 := [(0, .ref (ad 150)), (1, .int l1), (4, .int (13 : Int32))]) [1, 2, 0] rfl ?_
    exact v_12_sign_b95 X hr hZ _ _ _ _ h
set_option maxRecDepth 20000 in
theorem v_12_sign_b75 (X : CXq p s m args meth c cX12_sign 5 yX12_sign.cls ad cy D (AW ad) s.heap) (hr : meth.sig.returnType = (some .int)) (hZ : ad 1000 = 189) {Q : Int32 → Mem → MemL → Prop} : ∀ (l1 : Int32) (l2 : Int32) (l4 : Int32) (w : Mem) (wl : MemL), wp_12_sign_b75 Q l1 l2 l4 w wl → V p l e (RM 1) s m args below meth c 5 ad cy D (AW ad) s.heap 0 0 (MQ below (va_Qi (fun r (u : Mem × MemL) => Q r u.1 u.2) (BM ad cy D wc) (AW ad)) args s 0 0 (AW ad)) wc w wl 75 [(0, .ref (ad 150)), (1, .int l1), (2, .int l2), (4, .int l4)] [] := by
  intro l1 l2 l4 w wl h
  unfold wp_12_sign_b75 at h
  refine V_iload_n X (i := 2) 2 dX12_sign_75 rfl rfl ?_
  refine V_bipush X (v := (47 : Int32)) dX12_sign_76 (by decide) ?_
  obtain ⟨ht, hf⟩ := h
  refine V_icmp_ne X (tgt := 85) dX12_sign_78 (by decide) (fun c => ?_) (fun c => ?_)
  · have h := ht c
    refine V_sub X (ls1 := [(0, .ref (ad 150)), (1, .int l1), (2, .int l2), (4, .int l4)]) [0, 1, 2, 3] rfl ?_
    exact v_12_sign_b85 X hr hZ _ _ _ _ _ h
  · have h := hf c
    refine V_bipush X (v := (15 : Int32)) dX12_sign_81 (by decide) ?_
    refine V_istore X dX12_sign_83 (by decide) rfl (ls1 := [(4, .int (15 : Int32)), (0, .ref (ad 150)), (1, .int l1), (2, .int l2)]) rfl ?_
    refine V_sub X (ls1 := [(0, .ref (ad 150)), (1, .int l1), (2, .int l2), (4, .int (15 : Int32))]) [1, 2, 3, 0] rfl ?_
    exact v_12_sign_b85 X hr hZ _ _ _ _ _ h
set_option maxRecDepth 20000 in
theorem v_12_sign_b65 (X : CXq p s m args meth c cX12_sign 5 yX12_sign.cls ad cy D (AW ad) s.heap) (hr : meth.sig.returnType = (some .int)) (hZ : ad 1000 = 189) {Q : Int32 → Mem → MemL → Prop} : ∀ (l1 : Int32) (l2 : Int32) (l4 : Int32) (w : Mem) (wl : MemL), wp_12_sign_b65 Q l1 l2 l4 w wl → V p l e (RM 1) s m args below meth c 5 ad cy D (AW ad) s.heap 0 0 (MQ below (va_Qi (fun r (u : Mem × MemL) => Q r u.1 u.2) (BM ad cy D wc) (AW ad)) args s 0 0 (AW ad)) wc w wl 65 [(0, .ref (ad 150)), (1, .int l1), (2, .int l2), (4, .int l4)] [] := by
  intro l1 l2 l4 w wl h
  unfold wp_12_sign_b65 at h
  refine V_iload_n X (i := 2) 2 dX12_sign_65 rfl rfl ?_
  refine V_bipush X (v := (42 : Int32)) dX12_sign_66 (by decide) ?_
  obtain ⟨ht, hf⟩ := h
  refine V_icmp_ne X (tgt := 75) dX12_sign_68 (by decide) (fun c => ?_) (fun c => ?_)
  · have h := ht c
    refine V_sub X (ls1 := [(0, .ref (ad 150)), (1, .int l1), (2, .int l2), (4, .int l4)]) [0, 1, 2, 3] rfl ?_
    exact v_12_sign_b75 X hr hZ _ _ _ _ _ h
  · have h := hf c
    refine V_bipush X (v := (10 : Int32)) dX12_sign_71 (by decide) ?_
    refine V_istore X dX12_sign_73 (by decide) rfl (ls1 := [(4, .int (10 : Int32)), (0, .ref (ad 150)), (1, .int l1), (2, .int l2)]) rfl ?_
    refine V_sub X (ls1 := [(0, .ref (ad 150)), (1, .int l1), (2, .int l2), (4, .int (10 : Int32))]) [1, 2, 3, 0] rfl ?_
    exact v_12_sign_b75 X hr hZ _ _ _ _ _ h
set_option maxRecDepth 20000 in
theorem v_12_sign_b55 (X : CXq p s m args meth c cX12_sign 5 yX12_sign.cls ad cy D (AW ad) s.heap) (hr : meth.sig.returnType = (some .int)) (hZ : ad 1000 = 189) {Q : Int32 → Mem → MemL → Prop} : ∀ (l1 : Int32) (l2 : Int32) (l4 : Int32) (w : Mem) (wl : MemL), wp_12_sign_b55 Q l1 l2 l4 w wl → V p l e (RM 1) s m args below meth c 5 ad cy D (AW ad) s.heap 0 0 (MQ below (va_Qi (fun r (u : Mem × MemL) => Q r u.1 u.2) (BM ad cy D wc) (AW ad)) args s 0 0 (AW ad)) wc w wl 55 [(0, .ref (ad 150)), (1, .int l1), (2, .int l2), (4, .int l4)] [] := by
  intro l1 l2 l4 w wl h
  unfold wp_12_sign_b55 at h
  refine V_iload_n X (i := 2) 2 dX12_sign_55 rfl rfl ?_
  refine V_bipush X (v := (45 : Int32)) dX12_sign_56 (by decide) ?_
  obtain ⟨ht, hf⟩ := h
  refine V_icmp_ne X (tgt := 65) dX12_sign_58 (by decide) (fun c => ?_) (fun c => ?_)
  · have h := ht c
    refine V_sub X (ls1 := [(0, .ref (ad 150)), (1, .int l1), (2, .int l2), (4, .int l4)]) [0, 1, 2, 3] rfl ?_
    exact v_12_sign_b65 X hr hZ _ _ _ _ _ h
  · have h := hf c
    refine V_bipush X (v := (9 : Int32)) dX12_sign_61 (by decide) ?_
    refine V_istore X dX12_sign_63 (by decide) rfl (ls1 := [(4, .int (9 : Int32)), (0, .ref (ad 150)), (1, .int l1), (2, .int l2)]) rfl ?_
    refine V_sub X (ls1 := [(0, .ref (ad 150)), (1, .int l1), (2, .int l2), (4, .int (9 : Int32))]) [1, 2, 3, 0] rfl ?_
    exact v_12_sign_b65 X hr hZ _ _ _ _ _ h
set_option maxRecDepth 20000 in
theorem v_12_sign_b43 (X : CXq p s m args meth c cX12_sign 5 yX12_sign.cls ad cy D (AW ad) s.heap) (hr : meth.sig.returnType = (some .int)) (hZ : ad 1000 = 189) {Q : Int32 → Mem → MemL → Prop} : ∀ (l1 : Int32) (l2 : Int32) (s0 : Int32) (w : Mem) (wl : MemL), wp_12_sign_b43 Q l1 l2 s0 w wl → V p l e (RM 1) s m args below meth c 5 ad cy D (AW ad) s.heap 0 0 (MQ below (va_Qi (fun r (u : Mem × MemL) => Q r u.1 u.2) (BM ad cy D wc) (AW ad)) args s 0 0 (AW ad)) wc w wl 43 [(0, .ref (ad 150)), (1, .int l1), (2, .int l2)] [.int s0] := by
  intro l1 l2 s0 w wl h
  unfold wp_12_sign_b43 at h
  refine V_istore X dX12_sign_43 (by decide) rfl (ls1 := [(4, .int s0), (0, .ref (ad 150)), (1, .int l1), (2, .int l2)]) rfl ?_
  refine V_iload_n X (i := 2) 3 dX12_sign_45 rfl rfl ?_
  refine V_bipush X (v := (43 : Int32)) dX12_sign_46 (by decide) ?_
  obtain ⟨ht, hf⟩ := h
  refine V_icmp_ne X (tgt := 55) dX12_sign_48 (by decide) (fun c => ?_) (fun c => ?_)
  · have h := ht c
    refine V_sub X (ls1 := [(0, .ref (ad 150)), (1, .int l1), (2, .int l2), (4, .int s0)]) [1, 2, 3, 0] rfl ?_
    exact v_12_sign_b55 X hr hZ _ _ _ _ _ h
  · have h := hf c
    refine V_bipush X (v := (8 : Int32)) dX12_sign_51 (by decide) ?_
    refine V_istore X dX12_sign_53 (by decide) rfl (ls1 := [(4, .int (8 : Int32)), (0, .ref (ad 150)), (1, .int l1), (2, .int l2)]) rfl ?_
    refine V_sub X (ls1 := [(0, .ref (ad 150)), (1, .int l1), (2, .int l2), (4, .int (8 : Int32))]) [1, 2, 3, 0] rfl ?_
    exact v_12_sign_b55 X hr hZ _ _ _ _ _ h
set_option maxRecDepth 20000 in
theorem v_12_sign {a1 : Int32} {a2 : Int32} {a3 : Int32} (X : CXq p s m args meth c cX12_sign 5 yX12_sign.cls ad cy D (AW ad) s.heap) (hr : meth.sig.returnType = (some .int)) (hZ : ad 1000 = 189) {w : Mem} {wl : MemL} {Q : Int32 → Mem → MemL → Prop} (h : wp_12_sign a1 a2 a3 w wl Q) : V p l e (RM 1) s m args below meth c 5 ad cy D (AW ad) s.heap 0 0 (MQ below (va_Qi (fun r (u : Mem × MemL) => Q r u.1 u.2) (BM ad cy D wc) (AW ad)) args s 0 0 (AW ad)) wc w wl 0 [(0, .ref (ad 150)), (1, .int a1), (2, .int a2), (3, .int a3)] [] := by
  unfold wp_12_sign at h
  refine V_iload_n X (i := 2) 2 dX12_sign_0 rfl rfl ?_
  refine V_bipush X (v := (59 : Int32)) dX12_sign_1 (by decide) ?_
  obtain ⟨ht, hf⟩ := h
  refine V_icmp_ne X (tgt := 10) dX12_sign_3 (by decide) (fun c => ?_) (fun c => ?_)
  · have h := ht c
    refine V_iload_n X (i := 2) 2 dX12_sign_10 rfl rfl ?_
    refine V_bipush X (v := (61 : Int32)) dX12_sign_11 (by decide) ?_
    obtain ⟨ht, hf⟩ := h
    refine V_icmp_ne X (tgt := 20) dX12_sign_13 (by decide) (fun c => ?_) (fun c => ?_)
    · have h := ht c
      refine V_iload_n X (i := 2) 2 dX12_sign_20 rfl rfl ?_
      refine V_bipush X (v := (40 : Int32)) dX12_sign_21 (by decide) ?_
      obtain ⟨ht, hf⟩ := h
      refine V_icmp_ne X (tgt := 31) dX12_sign_23 (by decide) (fun c => ?_) (fun c => ?_)
      · have h := ht c
        refine V_iload_n X (i := 2) 2 dX12_sign_31 rfl rfl ?_
        refine V_bipush X (v := (41 : Int32)) dX12_sign_32 (by decide) ?_
        obtain ⟨ht, hf⟩ := h
        refine V_icmp_ne X (tgt := 42) dX12_sign_34 (by decide) (fun c => ?_) (fun c => ?_)
        · have h := ht c
          refine V_iconst X (v := (3 : Int32)) dX12_sign_42 (by decide) ?_
          refine V_sub X (ls1 := [(0, .ref (ad 150)), (1, .int a1), (2, .int a2)]) [0, 1, 2] rfl ?_
          exact v_12_sign_b43 X hr hZ _ _ _ _ _ h
        · have h := hf c
          refine V_bipush X (v := (7 : Int32)) dX12_sign_37 (by decide) ?_
          refine V_goto X (tgt := 43) dX12_sign_39 (by decide) ?_
          refine V_sub X (ls1 := [(0, .ref (ad 150)), (1, .int a1), (2, .int a2)]) [0, 1, 2] rfl ?_
          exact v_12_sign_b43 X hr hZ _ _ _ _ _ h
      · have h := hf c
        refine V_bipush X (v := (6 : Int32)) dX12_sign_26 (by decide) ?_
        refine V_goto X (tgt := 43) dX12_sign_28 (by decide) ?_
        refine V_sub X (ls1 := [(0, .ref (ad 150)), (1, .int a1), (2, .int a2)]) [0, 1, 2] rfl ?_
        exact v_12_sign_b43 X hr hZ _ _ _ _ _ h
    · have h := hf c
      refine V_iconst X (v := (5 : Int32)) dX12_sign_16 (by decide) ?_
      refine V_goto X (tgt := 43) dX12_sign_17 (by decide) ?_
      refine V_sub X (ls1 := [(0, .ref (ad 150)), (1, .int a1), (2, .int a2)]) [0, 1, 2] rfl ?_
      exact v_12_sign_b43 X hr hZ _ _ _ _ _ h
  · have h := hf c
    refine V_iconst X (v := (4 : Int32)) dX12_sign_6 (by decide) ?_
    refine V_goto X (tgt := 43) dX12_sign_7 (by decide) ?_
    refine V_sub X (ls1 := [(0, .ref (ad 150)), (1, .int a1), (2, .int a2)]) [0, 1, 2] rfl ?_
    exact v_12_sign_b43 X hr hZ _ _ _ _ _ h
theorem c_12_sign {a1 : Int32} {a2 : Int32} {a3 : Int32} (hinj : INJ ad) (hZ : ad 1000 = 189) {w : Mem} {wl : MemL} {Q : Int32 → Mem → MemL → Prop} (h : wp_12_sign a1 a2 a3 w wl Q) : Met l yX12_sign (TBq yX12_sign cX12_sign 5 (some .int)) (RM 1) (va_Pc [.ref (ad 150), .int a1, .int a2, .int a3] (PB ad cy D (cmb wc w) wl)) (va_Qi (fun r (u : Mem × MemL) => Q r u.1 u.2) (BM ad cy D wc) (AW ad)) 0 0 (AW ad) := M_enter (by decide) (Nat.le_of_ble_eq_true rfl) hinj (fun p e s m args below meth c X hr => v_12_sign X hr hZ h)
theorem mf_12_sign : MFV yX12_sign cX12_sign 5 (some .int) yX12_sign.cls 3 := ⟨q_1469, q_1468, qs_46, q_14, by decide⟩
theorem K_12_sign {own : String} {idx : Nat} {a1 : Int32} {a2 : Int32} {a3 : Int32} (X : CXq p s m args meth c cc nL own ad cy D A H0) (hL : LK own idx yX12_sign) (hZ : ad 1000 = 189) {w : Mem} {wl : MemL} {Q : Int32 → Mem → MemL → Prop} (h : wp_12_sign a1 a2 a3 w wl Q) (hR : (RM 1).frames + 1 ≤ R.frames ∧ 8 + (5 + 11) + (RM 1).locals ≤ R.locals) (hce : ce ≤ R.cells ∧ sl ≤ R.slots) (hcat : (st1.map fun v => v.category).sum ≤ 8) (hd : decode cc pc = .ok (.invokevirtual idx, 3)) (kk : ∀ (r : Int32) (u : Mem) (v : MemL), Q r u v → V p l e R s m args below meth c nL ad cy D A H0 ce sl Qs wc u v (pc + 3) ls (.int r :: st1)) : V p l e R s m args below meth c nL ad cy D A H0 ce sl Qs wc w wl pc ls (.int a3 :: .int a2 :: .int a1 :: .ref (ad 150) :: st1) := V_callVI_m X mf_12_sign hL (rfl : vwCl[12]? = some (RX12, TX12, 72)) (by decide) (rfl : SK 150 = 12) (hzk hZ (by decide)).2 (c_12_sign X.2.2.2.2.2.2.2.1 hZ h) (As := [.int a1, .int a2, .int a3]) rfl ⟨rfl, rfl⟩ hR hce st1 rfl hcat hd kk
set_option maxRecDepth 20000 in
theorem v_12_cut_b291 (X : CXq p s m args meth c cX12_cut 8 yX12_cut.cls ad cy D (AW ad) s.heap) (hr : meth.sig.returnType = none) (hZ : ad 1000 = 189) {Q : Mem → MemL → Prop} {L7 : Int32 → Mem → MemL → Prop} (HL7 : ∀ (l1 : Int32) (w : Mem) (wl : MemL), L7 l1 w wl → V p l e (RM 2) s m args below meth c 8 ad cy D (AW ad) s.heap 0 0 (MQ below (va_Qv (fun (u : Mem × MemL) => Q u.1 u.2) (BM ad cy D wc) (AW ad)) args s 0 0 (AW ad)) wc w wl 7 [(0, .ref (ad 150)), (1, .int l1)] []) : ∀ (l1 : Int32) (w : Mem) (wl : MemL), wp_12_cut_b291 Q L7 l1 w wl → V p l e (RM 2) s m args below meth c 8 ad cy D (AW ad) s.heap 0 0 (MQ below (va_Qv (fun (u : Mem × MemL) => Q u.1 u.2) (BM ad cy D wc) (AW ad)) args s 0 0 (AW ad)) wc w wl 291 [(0, .ref (ad 150)), (1, .int l1)] [] := by
  intro l1 w wl h
  unfold wp_12_cut_b291 at h
  refine V_goto X (tgt := 7) dX12_cut_291 (by decide) ?_
  refine V_sub X (ls1 := [(0, .ref (ad 150)), (1, .int l1)]) [0, 1] rfl ?_
  exact HL7 _ _ _ h
set_option maxRecDepth 20000 in
theorem v_12_cut_b261 (X : CXq p s m args meth c cX12_cut 8 yX12_cut.cls ad cy D (AW ad) s.heap) (hr : meth.sig.returnType = none) (hZ : ad 1000 = 189) {Q : Mem → MemL → Prop} {L7 : Int32 → Mem → MemL → Prop} (HL7 : ∀ (l1 : Int32) (w : Mem) (wl : MemL), L7 l1 w wl → V p l e (RM 2) s m args below meth c 8 ad cy D (AW ad) s.heap 0 0 (MQ below (va_Qv (fun (u : Mem × MemL) => Q u.1 u.2) (BM ad cy D wc) (AW ad)) args s 0 0 (AW ad)) wc w wl 7 [(0, .ref (ad 150)), (1, .int l1)] []) : ∀ (l1 : Int32) (l3 : Int32) (l4 : Int32) (s1 : Int32) (w : Mem) (wl : MemL), wp_12_cut_b261 Q L7 l1 l3 l4 s1 w wl → V p l e (RM 2) s m args below meth c 8 ad cy D (AW ad) s.heap 0 0 (MQ below (va_Qv (fun (u : Mem × MemL) => Q u.1 u.2) (BM ad cy D wc) (AW ad)) args s 0 0 (AW ad)) wc w wl 261 [(0, .ref (ad 150)), (1, .int l1), (3, .int l3), (4, .int l4)] [.int s1, .ref (ad 150)] := by
  intro l1 l3 l4 s1 w wl h
  unfold wp_12_cut_b261 at h
  refine V_iload_n X (i := 1) 1 dX12_cut_261 rfl rfl ?_
  refine V_iload X (i := 4) 3 dX12_cut_262 rfl ?_
  refine V_lconst X (v := (0 : Int64)) dX12_cut_264 (by decide) ?_
  refine K_12_token X (Or.inl q_1456) hZ h ⟨Nat.le_of_ble_eq_true rfl, Nat.le_of_ble_eq_true rfl⟩ ⟨Nat.zero_le _, Nat.zero_le _⟩ (st1 := []) (Nat.le_of_ble_eq_true rfl) dX12_cut_265 (fun w1 v2 h => ?_)
  refine V_iload_n X (i := 1) 1 dX12_cut_268 rfl rfl ?_
  refine V_iload_n X (i := 3) 2 dX12_cut_269 rfl rfl ?_
  refine V_iadd X dX12_cut_270 ?_
  obtain ⟨x3, ex3⟩ : ∃ y : Int32, y = (l1 + l3) := ⟨_, rfl⟩
  have h := h x3 ex3
  refine V_istore_n X dX12_cut_271 rfl (by decide) ex3 (ls1 := [(1, .int x3), (0, .ref (ad 150)), (3, .int l3), (4, .int l4)]) rfl ?_
  refine V_goto X (tgt := 291) dX12_cut_272 (by decide) ?_
  refine V_sub X (ls1 := [(0, .ref (ad 150)), (1, .int x3)]) [1, 0] rfl ?_
  exact v_12_cut_b291 X hr hZ HL7 _ _ _ h
set_option maxRecDepth 20000 in
theorem v_12_cut_b244 (X : CXq p s m args meth c cX12_cut 8 yX12_cut.cls ad cy D (AW ad) s.heap) (hr : meth.sig.returnType = none) (hZ : ad 1000 = 189) {Q : Mem → MemL → Prop} {L7 : Int32 → Mem → MemL → Prop} (HL7 : ∀ (l1 : Int32) (w : Mem) (wl : MemL), L7 l1 w wl → V p l e (RM 2) s m args below meth c 8 ad cy D (AW ad) s.heap 0 0 (MQ below (va_Qv (fun (u : Mem × MemL) => Q u.1 u.2) (BM ad cy D wc) (AW ad)) args s 0 0 (AW ad)) wc w wl 7 [(0, .ref (ad 150)), (1, .int l1)] []) {L208 : Int32 → Int32 → Int32 → Mem → MemL → Prop} (HL208 : ∀ (l1 : Int32) (l3 : Int32) (l4 : Int32) (w : Mem) (wl : MemL), L208 l1 l3 l4 w wl → V p l e (RM 2) s m args below meth c 8 ad cy D (AW ad) s.heap 0 0 (MQ below (va_Qv (fun (u : Mem × MemL) => Q u.1 u.2) (BM ad cy D wc) (AW ad)) args s 0 0 (AW ad)) wc w wl 208 [(0, .ref (ad 150)), (1, .int l1), (3, .int l3), (4, .int l4)] []) : ∀ (l1 : Int32) (l3 : Int32) (l4 : Int32) (w : Mem) (wl : MemL), wp_12_cut_b244 Q L7 L208 l1 l3 l4 w wl → V p l e (RM 2) s m args below meth c 8 ad cy D (AW ad) s.heap 0 0 (MQ below (va_Qv (fun (u : Mem × MemL) => Q u.1 u.2) (BM ad cy D wc) (AW ad)) args s 0 0 (AW ad)) wc w wl 244 [(0, .ref (ad 150)), (1, .int l1), (3, .int l3), (4, .int l4)] [] := by
  intro l1 l3 l4 w wl h
  unfold wp_12_cut_b244 at h
  obtain ⟨x1, ex1⟩ : ∃ y : Int32, y = l3 + (1 : Int32) := ⟨_, rfl⟩
  have h := h x1 ex1
  refine V_iinc X 2 dX12_cut_244 rfl (by decide) (by rw [ex1]; rfl) (ls1 := [(3, .int x1), (0, .ref (ad 150)), (1, .int l1), (4, .int l4)]) rfl ?_
  refine V_goto X (tgt := 208) dX12_cut_247 (by decide) ?_
  refine V_sub X (ls1 := [(0, .ref (ad 150)), (1, .int l1), (3, .int x1), (4, .int l4)]) [1, 2, 0, 3] rfl ?_
  exact HL208 _ _ _ _ _ h
set_option maxRecDepth 20000 in
theorem v_12_cut_b208 (X : CXq p s m args meth c cX12_cut 8 yX12_cut.cls ad cy D (AW ad) s.heap) (hr : meth.sig.returnType = none) (hZ : ad 1000 = 189) {Q : Mem → MemL → Prop} {L7 : Int32 → Mem → MemL → Prop} (HL7 : ∀ (l1 : Int32) (w : Mem) (wl : MemL), L7 l1 w wl → V p l e (RM 2) s m args below meth c 8 ad cy D (AW ad) s.heap 0 0 (MQ below (va_Qv (fun (u : Mem × MemL) => Q u.1 u.2) (BM ad cy D wc) (AW ad)) args s 0 0 (AW ad)) wc w wl 7 [(0, .ref (ad 150)), (1, .int l1)] []) : ∀ (n : Nat) (l1 : Int32) (l3 : Int32) (l4 : Int32) (w : Mem) (wl : MemL), wp_12_cut_b208 Q L7 n l1 l3 l4 w wl → V p l e (RM 2) s m args below meth c 8 ad cy D (AW ad) s.heap 0 0 (MQ below (va_Qv (fun (u : Mem × MemL) => Q u.1 u.2) (BM ad cy D wc) (AW ad)) args s 0 0 (AW ad)) wc w wl 208 [(0, .ref (ad 150)), (1, .int l1), (3, .int l3), (4, .int l4)] [] := by
  intro n
  induction n with
  | zero =>
    intro l1 l3 l4 w wl h
    exact h.elim
  | succ n ih =>
    intro l1 l3 l4 w wl h
    unfold wp_12_cut_b208 at h
    refine V_aload_n X (i := 0) 0 dX12_cut_208 rfl rfl ?_
    refine V_iload_n X (i := 1) 1 dX12_cut_209 rfl rfl ?_
    refine V_iload_n X (i := 3) 2 dX12_cut_210 rfl rfl ?_
    refine V_iadd X dX12_cut_211 ?_
    refine K_12_byteAt X (Or.inl q_1452) hZ h ⟨Nat.le_of_ble_eq_true rfl, Nat.le_of_ble_eq_true rfl⟩ ⟨Nat.zero_le _, Nat.zero_le _⟩ (st1 := []) (Nat.le_of_ble_eq_true rfl) dX12_cut_212 (fun r2 w1 v3 h => ?_)
    refine K_12_isDigit X (Or.inl q_1463) hZ h ⟨Nat.le_of_ble_eq_true rfl, Nat.le_of_ble_eq_true rfl⟩ ⟨Nat.zero_le _, Nat.zero_le _⟩ (st1 := []) (Nat.le_of_ble_eq_true rfl) dX12_cut_215 (fun r5 w4 v6 h => ?_)
    obtain ⟨ht, hf⟩ := h
    refine V_if_eq X (tgt := 250) dX12_cut_218 (by decide) (fun c => ?_) (fun c => ?_)
    · have h := ht c
      refine V_aload_n X (i := 0) 0 dX12_cut_250 rfl rfl ?_
      refine V_iload_n X (i := 3) 2 dX12_cut_251 rfl rfl ?_
      refine V_iconst X (v := (4 : Int32)) dX12_cut_252 (by decide) ?_
      obtain ⟨ht, hf⟩ := h
      refine V_icmp_le X (tgt := 260) dX12_cut_253 (by decide) (fun c => ?_) (fun c => ?_)
      · have h := ht c
        refine V_iconst X (v := (2 : Int32)) dX12_cut_260 (by decide) ?_
        refine V_sub X (ls1 := [(0, .ref (ad 150)), (1, .int l1), (3, .int l3), (4, .int l4)]) [0, 1, 2, 3] rfl ?_
        exact v_12_cut_b261 X hr hZ HL7 _ _ _ _ _ _ h
      · have h := hf c
        refine V_iconst X (v := (3 : Int32)) dX12_cut_256 (by decide) ?_
        refine V_goto X (tgt := 261) dX12_cut_257 (by decide) ?_
        refine V_sub X (ls1 := [(0, .ref (ad 150)), (1, .int l1), (3, .int l3), (4, .int l4)]) [0, 1, 2, 3] rfl ?_
        exact v_12_cut_b261 X hr hZ HL7 _ _ _ _ _ _ h
    · have h := hf c
      refine V_iload_n X (i := 3) 2 dX12_cut_221 rfl rfl ?_
      refine V_iconst X (v := (4 : Int32)) dX12_cut_222 (by decide) ?_
      obtain ⟨ht, hf⟩ := h
      refine V_icmp_ge X (tgt := 244) dX12_cut_223 (by decide) (fun c => ?_) (fun c => ?_)
      · have h := ht c
        refine V_sub X (ls1 := [(0, .ref (ad 150)), (1, .int l1), (3, .int l3), (4, .int l4)]) [0, 1, 2, 3] rfl ?_
        exact v_12_cut_b244 X hr hZ HL7 ih _ _ _ _ _ h
      · have h := hf c
        refine V_bipush X (v := (10 : Int32)) dX12_cut_226 (by decide) ?_
        refine V_iload X (i := 4) 3 dX12_cut_228 rfl ?_
        refine V_imul X dX12_cut_230 ?_
        refine V_aload_n X (i := 0) 0 dX12_cut_231 rfl rfl ?_
        refine V_iload_n X (i := 1) 1 dX12_cut_232 rfl rfl ?_
        refine V_iload_n X (i := 3) 2 dX12_cut_233 rfl rfl ?_
        refine V_iadd X dX12_cut_234 ?_
        refine K_12_byteAt X (Or.inl q_1452) hZ h ⟨Nat.le_of_ble_eq_true rfl, Nat.le_of_ble_eq_true rfl⟩ ⟨Nat.zero_le _, Nat.zero_le _⟩ (st1 := [.int ((10 : Int32) * l4)]) (Nat.le_of_ble_eq_true rfl) dX12_cut_235 (fun r8 w7 v9 h => ?_)
        refine V_iadd X dX12_cut_238 ?_
        refine V_bipush X (v := (48 : Int32)) dX12_cut_239 (by decide) ?_
        refine V_isub X dX12_cut_241 ?_
        obtain ⟨x10, ex10⟩ : ∃ y : Int32, y = ((((10 : Int32) * l4) + r8) - (48 : Int32)) := ⟨_, rfl⟩
        have h := h x10 ex10
        refine V_istore X dX12_cut_242 (by decide) ex10 (ls1 := [(4, .int x10), (0, .ref (ad 150)), (1, .int l1), (3, .int l3)]) rfl ?_
        refine V_sub X (ls1 := [(0, .ref (ad 150)), (1, .int l1), (3, .int l3), (4, .int x10)]) [1, 2, 3, 0] rfl ?_
        exact v_12_cut_b244 X hr hZ HL7 ih _ _ _ _ _ h
set_option maxRecDepth 20000 in
theorem v_12_cut_b179 (X : CXq p s m args meth c cX12_cut 8 yX12_cut.cls ad cy D (AW ad) s.heap) (hr : meth.sig.returnType = none) (hZ : ad 1000 = 189) {Q : Mem → MemL → Prop} {L7 : Int32 → Mem → MemL → Prop} (HL7 : ∀ (l1 : Int32) (w : Mem) (wl : MemL), L7 l1 w wl → V p l e (RM 2) s m args below meth c 8 ad cy D (AW ad) s.heap 0 0 (MQ below (va_Qv (fun (u : Mem × MemL) => Q u.1 u.2) (BM ad cy D wc) (AW ad)) args s 0 0 (AW ad)) wc w wl 7 [(0, .ref (ad 150)), (1, .int l1)] []) : ∀ (l1 : Int32) (l3 : Int32) (l4 : Int64) (l6 : Int32) (w : Mem) (wl : MemL), wp_12_cut_b179 Q L7 l1 l3 l4 l6 w wl → V p l e (RM 2) s m args below meth c 8 ad cy D (AW ad) s.heap 0 0 (MQ below (va_Qv (fun (u : Mem × MemL) => Q u.1 u.2) (BM ad cy D wc) (AW ad)) args s 0 0 (AW ad)) wc w wl 179 [(0, .ref (ad 150)), (1, .int l1), (3, .int l3), (4, .long l4), (6, .int l6)] [] := by
  intro l1 l3 l4 l6 w wl h
  unfold wp_12_cut_b179 at h
  refine V_aload_n X (i := 0) 0 dX12_cut_179 rfl rfl ?_
  refine V_iload X (i := 6) 4 dX12_cut_180 rfl ?_
  refine V_iload_n X (i := 1) 1 dX12_cut_182 rfl rfl ?_
  refine V_iconst X (v := (0 : Int32)) dX12_cut_183 (by decide) ?_
  refine V_lload X (i := 4) 3 dX12_cut_184 rfl ?_
  refine K_12_token X (Or.inl q_1456) hZ h ⟨Nat.le_of_ble_eq_true rfl, Nat.le_of_ble_eq_true rfl⟩ ⟨Nat.zero_le _, Nat.zero_le _⟩ (st1 := []) (Nat.le_of_ble_eq_true rfl) dX12_cut_186 (fun w1 v2 h => ?_)
  refine V_iload_n X (i := 1) 1 dX12_cut_189 rfl rfl ?_
  refine V_iload_n X (i := 3) 2 dX12_cut_190 rfl rfl ?_
  refine V_iadd X dX12_cut_191 ?_
  obtain ⟨x3, ex3⟩ : ∃ y : Int32, y = (l1 + l3) := ⟨_, rfl⟩
  have h := h x3 ex3
  refine V_istore_n X dX12_cut_192 rfl (by decide) ex3 (ls1 := [(1, .int x3), (0, .ref (ad 150)), (3, .int l3), (4, .long l4), (6, .int l6)]) rfl ?_
  refine V_goto X (tgt := 291) dX12_cut_193 (by decide) ?_
  refine V_sub X (ls1 := [(0, .ref (ad 150)), (1, .int x3)]) [1, 0] rfl ?_
  exact v_12_cut_b291 X hr hZ HL7 _ _ _ h
set_option maxRecDepth 20000 in
theorem v_12_cut_b173 (X : CXq p s m args meth c cX12_cut 8 yX12_cut.cls ad cy D (AW ad) s.heap) (hr : meth.sig.returnType = none) (hZ : ad 1000 = 189) {Q : Mem → MemL → Prop} {L7 : Int32 → Mem → MemL → Prop} (HL7 : ∀ (l1 : Int32) (w : Mem) (wl : MemL), L7 l1 w wl → V p l e (RM 2) s m args below meth c 8 ad cy D (AW ad) s.heap 0 0 (MQ below (va_Qv (fun (u : Mem × MemL) => Q u.1 u.2) (BM ad cy D wc) (AW ad)) args s 0 0 (AW ad)) wc w wl 7 [(0, .ref (ad 150)), (1, .int l1)] []) {L146 : Int32 → Int32 → Int64 → Int32 → Int32 → Mem → MemL → Prop} (HL146 : ∀ (l1 : Int32) (l3 : Int32) (l4 : Int64) (l6 : Int32) (l7 : Int32) (w : Mem) (wl : MemL), L146 l1 l3 l4 l6 l7 w wl → V p l e (RM 2) s m args below meth c 8 ad cy D (AW ad) s.heap 0 0 (MQ below (va_Qv (fun (u : Mem × MemL) => Q u.1 u.2) (BM ad cy D wc) (AW ad)) args s 0 0 (AW ad)) wc w wl 146 [(0, .ref (ad 150)), (1, .int l1), (3, .int l3), (4, .long l4), (6, .int l6), (7, .int l7)] []) : ∀ (l1 : Int32) (l3 : Int32) (l4 : Int64) (l6 : Int32) (l7 : Int32) (w : Mem) (wl : MemL), wp_12_cut_b173 Q L7 L146 l1 l3 l4 l6 l7 w wl → V p l e (RM 2) s m args below meth c 8 ad cy D (AW ad) s.heap 0 0 (MQ below (va_Qv (fun (u : Mem × MemL) => Q u.1 u.2) (BM ad cy D wc) (AW ad)) args s 0 0 (AW ad)) wc w wl 173 [(0, .ref (ad 150)), (1, .int l1), (3, .int l3), (4, .long l4), (6, .int l6), (7, .int l7)] [] := by
  intro l1 l3 l4 l6 l7 w wl h
  unfold wp_12_cut_b173 at h
  obtain ⟨x1, ex1⟩ : ∃ y : Int32, y = l7 + (1 : Int32) := ⟨_, rfl⟩
  have h := h x1 ex1
  refine V_iinc X 5 dX12_cut_173 rfl (by decide) (by rw [ex1]; rfl) (ls1 := [(7, .int x1), (0, .ref (ad 150)), (1, .int l1), (3, .int l3), (4, .long l4), (6, .int l6)]) rfl ?_
  refine V_goto X (tgt := 146) dX12_cut_176 (by decide) ?_
  refine V_sub X (ls1 := [(0, .ref (ad 150)), (1, .int l1), (3, .int l3), (4, .long l4), (6, .int l6), (7, .int x1)]) [1, 2, 3, 4, 5, 0] rfl ?_
  exact HL146 _ _ _ _ _ _ _ h
set_option maxRecDepth 20000 in
theorem v_12_cut_b146 (X : CXq p s m args meth c cX12_cut 8 yX12_cut.cls ad cy D (AW ad) s.heap) (hr : meth.sig.returnType = none) (hZ : ad 1000 = 189) {Q : Mem → MemL → Prop} {L7 : Int32 → Mem → MemL → Prop} (HL7 : ∀ (l1 : Int32) (w : Mem) (wl : MemL), L7 l1 w wl → V p l e (RM 2) s m args below meth c 8 ad cy D (AW ad) s.heap 0 0 (MQ below (va_Qv (fun (u : Mem × MemL) => Q u.1 u.2) (BM ad cy D wc) (AW ad)) args s 0 0 (AW ad)) wc w wl 7 [(0, .ref (ad 150)), (1, .int l1)] []) : ∀ (n : Nat) (l1 : Int32) (l3 : Int32) (l4 : Int64) (l6 : Int32) (l7 : Int32) (w : Mem) (wl : MemL), wp_12_cut_b146 Q L7 n l1 l3 l4 l6 l7 w wl → V p l e (RM 2) s m args below meth c 8 ad cy D (AW ad) s.heap 0 0 (MQ below (va_Qv (fun (u : Mem × MemL) => Q u.1 u.2) (BM ad cy D wc) (AW ad)) args s 0 0 (AW ad)) wc w wl 146 [(0, .ref (ad 150)), (1, .int l1), (3, .int l3), (4, .long l4), (6, .int l6), (7, .int l7)] [] := by
  intro n
  induction n with
  | zero =>
    intro l1 l3 l4 l6 l7 w wl h
    exact h.elim
  | succ n ih =>
    intro l1 l3 l4 l6 l7 w wl h
    unfold wp_12_cut_b146 at h
    refine V_iload X (i := 7) 5 dX12_cut_146 rfl ?_
    refine V_bipush X (v := (29 : Int32)) dX12_cut_148 (by decide) ?_
    obtain ⟨ht, hf⟩ := h
    refine V_icmp_ge X (tgt := 179) dX12_cut_150 (by decide) (fun c => ?_) (fun c => ?_)
    · have h := ht c
      refine V_sub X (ls1 := [(0, .ref (ad 150)), (1, .int l1), (3, .int l3), (4, .long l4), (6, .int l6)]) [0, 1, 2, 3, 4] rfl ?_
      exact v_12_cut_b179 X hr hZ HL7 _ _ _ _ _ _ h
    · have h := hf c
      refine V_aload_n X (i := 0) 0 dX12_cut_153 rfl rfl ?_
      refine G_12_34 X hZ dX12_cut_154 ?_
      refine V_iload X (i := 7) 5 dX12_cut_157 rfl ?_
      obtain ⟨g1, h⟩ := h
      refine V_lald X (rfl : SLq 157 = 29) (hzk hZ (by decide)) (rfl : SK 157 = 15) g1 dX12_cut_159 ?_
      refine V_lload X (i := 4) 3 dX12_cut_160 rfl ?_
      refine V_lcmp X dX12_cut_162 ?_
      obtain ⟨ht, hf⟩ := h
      refine V_if_ne X (tgt := 173) dX12_cut_163 (by decide) (fun c => ?_) (fun c => ?_)
      · have h := ht c
        refine V_sub X (ls1 := [(0, .ref (ad 150)), (1, .int l1), (3, .int l3), (4, .long l4), (6, .int l6), (7, .int l7)]) [0, 1, 2, 3, 4, 5] rfl ?_
        exact v_12_cut_b173 X hr hZ HL7 ih _ _ _ _ _ _ _ h
      · have h := hf c
        refine V_bipush X (v := (20 : Int32)) dX12_cut_166 (by decide) ?_
        refine V_iload X (i := 7) 5 dX12_cut_168 rfl ?_
        refine V_iadd X dX12_cut_170 ?_
        obtain ⟨x2, ex2⟩ : ∃ y : Int32, y = ((20 : Int32) + l7) := ⟨_, rfl⟩
        have h := h x2 ex2
        refine V_istore X dX12_cut_171 (by decide) ex2 (ls1 := [(6, .int x2), (0, .ref (ad 150)), (1, .int l1), (3, .int l3), (4, .long l4), (7, .int l7)]) rfl ?_
        refine V_sub X (ls1 := [(0, .ref (ad 150)), (1, .int l1), (3, .int l3), (4, .long l4), (6, .int x2), (7, .int l7)]) [1, 2, 3, 4, 0, 5] rfl ?_
        exact v_12_cut_b173 X hr hZ HL7 ih _ _ _ _ _ _ _ h
set_option maxRecDepth 20000 in
theorem v_12_cut_b135 (X : CXq p s m args meth c cX12_cut 8 yX12_cut.cls ad cy D (AW ad) s.heap) (hr : meth.sig.returnType = none) (hZ : ad 1000 = 189) {Q : Mem → MemL → Prop} {L7 : Int32 → Mem → MemL → Prop} (HL7 : ∀ (l1 : Int32) (w : Mem) (wl : MemL), L7 l1 w wl → V p l e (RM 2) s m args below meth c 8 ad cy D (AW ad) s.heap 0 0 (MQ below (va_Qv (fun (u : Mem × MemL) => Q u.1 u.2) (BM ad cy D wc) (AW ad)) args s 0 0 (AW ad)) wc w wl 7 [(0, .ref (ad 150)), (1, .int l1)] []) : ∀ (l1 : Int32) (l3 : Int32) (l4 : Int64) (s0 : Int32) (w : Mem) (wl : MemL), wp_12_cut_b135 Q L7 l1 l3 l4 s0 w wl → V p l e (RM 2) s m args below meth c 8 ad cy D (AW ad) s.heap 0 0 (MQ below (va_Qv (fun (u : Mem × MemL) => Q u.1 u.2) (BM ad cy D wc) (AW ad)) args s 0 0 (AW ad)) wc w wl 135 [(0, .ref (ad 150)), (1, .int l1), (3, .int l3), (4, .long l4)] [.int s0] := by
  intro l1 l3 l4 s0 w wl h
  unfold wp_12_cut_b135 at h
  refine V_istore X dX12_cut_135 (by decide) rfl (ls1 := [(6, .int s0), (0, .ref (ad 150)), (1, .int l1), (3, .int l3), (4, .long l4)]) rfl ?_
  refine V_iload_n X (i := 3) 3 dX12_cut_137 rfl rfl ?_
  refine V_bipush X (v := (7 : Int32)) dX12_cut_138 (by decide) ?_
  obtain ⟨ht, hf⟩ := h
  refine V_icmp_gt X (tgt := 179) dX12_cut_140 (by decide) (fun c => ?_) (fun c => ?_)
  · have h := ht c
    refine V_sub X (ls1 := [(0, .ref (ad 150)), (1, .int l1), (3, .int l3), (4, .long l4), (6, .int s0)]) [1, 2, 3, 4, 0] rfl ?_
    exact v_12_cut_b179 X hr hZ HL7 _ _ _ _ _ _ h
  · have h := hf c
    refine V_iconst X (v := (0 : Int32)) dX12_cut_143 (by decide) ?_
    refine V_istore X dX12_cut_144 (by decide) rfl (ls1 := [(7, .int (0 : Int32)), (6, .int s0), (0, .ref (ad 150)), (1, .int l1), (3, .int l3), (4, .long l4)]) rfl ?_
    refine V_sub X (ls1 := [(0, .ref (ad 150)), (1, .int l1), (3, .int l3), (4, .long l4), (6, .int s0), (7, .int (0 : Int32))]) [2, 3, 4, 5, 1, 0] rfl ?_
    obtain ⟨nn, h⟩ := h
    exact v_12_cut_b146 X hr hZ HL7 nn _ _ _ _ _ _ _ h
set_option maxRecDepth 20000 in
theorem v_12_cut_b118 (X : CXq p s m args meth c cX12_cut 8 yX12_cut.cls ad cy D (AW ad) s.heap) (hr : meth.sig.returnType = none) (hZ : ad 1000 = 189) {Q : Mem → MemL → Prop} {L7 : Int32 → Mem → MemL → Prop} (HL7 : ∀ (l1 : Int32) (w : Mem) (wl : MemL), L7 l1 w wl → V p l e (RM 2) s m args below meth c 8 ad cy D (AW ad) s.heap 0 0 (MQ below (va_Qv (fun (u : Mem × MemL) => Q u.1 u.2) (BM ad cy D wc) (AW ad)) args s 0 0 (AW ad)) wc w wl 7 [(0, .ref (ad 150)), (1, .int l1)] []) {L85 : Int32 → Int32 → Int64 → Mem → MemL → Prop} (HL85 : ∀ (l1 : Int32) (l3 : Int32) (l4 : Int64) (w : Mem) (wl : MemL), L85 l1 l3 l4 w wl → V p l e (RM 2) s m args below meth c 8 ad cy D (AW ad) s.heap 0 0 (MQ below (va_Qv (fun (u : Mem × MemL) => Q u.1 u.2) (BM ad cy D wc) (AW ad)) args s 0 0 (AW ad)) wc w wl 85 [(0, .ref (ad 150)), (1, .int l1), (3, .int l3), (4, .long l4)] []) : ∀ (l1 : Int32) (l3 : Int32) (l4 : Int64) (w : Mem) (wl : MemL), wp_12_cut_b118 Q L7 L85 l1 l3 l4 w wl → V p l e (RM 2) s m args below meth c 8 ad cy D (AW ad) s.heap 0 0 (MQ below (va_Qv (fun (u : Mem × MemL) => Q u.1 u.2) (BM ad cy D wc) (AW ad)) args s 0 0 (AW ad)) wc w wl 118 [(0, .ref (ad 150)), (1, .int l1), (3, .int l3), (4, .long l4)] [] := by
  intro l1 l3 l4 w wl h
  unfold wp_12_cut_b118 at h
  obtain ⟨x1, ex1⟩ : ∃ y : Int32, y = l3 + (1 : Int32) := ⟨_, rfl⟩
  have h := h x1 ex1
  refine V_iinc X 2 dX12_cut_118 rfl (by decide) (by rw [ex1]; rfl) (ls1 := [(3, .int x1), (0, .ref (ad 150)), (1, .int l1), (4, .long l4)]) rfl ?_
  refine V_goto X (tgt := 85) dX12_cut_121 (by decide) ?_
  refine V_sub X (ls1 := [(0, .ref (ad 150)), (1, .int l1), (3, .int x1), (4, .long l4)]) [1, 2, 0, 3] rfl ?_
  exact HL85 _ _ _ _ _ h
set_option maxRecDepth 20000 in
theorem v_12_cut_b85 (X : CXq p s m args meth c cX12_cut 8 yX12_cut.cls ad cy D (AW ad) s.heap) (hr : meth.sig.returnType = none) (hZ : ad 1000 = 189) {Q : Mem → MemL → Prop} {L7 : Int32 → Mem → MemL → Prop} (HL7 : ∀ (l1 : Int32) (w : Mem) (wl : MemL), L7 l1 w wl → V p l e (RM 2) s m args below meth c 8 ad cy D (AW ad) s.heap 0 0 (MQ below (va_Qv (fun (u : Mem × MemL) => Q u.1 u.2) (BM ad cy D wc) (AW ad)) args s 0 0 (AW ad)) wc w wl 7 [(0, .ref (ad 150)), (1, .int l1)] []) : ∀ (n : Nat) (l1 : Int32) (l3 : Int32) (l4 : Int64) (w : Mem) (wl : MemL), wp_12_cut_b85 Q L7 n l1 l3 l4 w wl → V p l e (RM 2) s m args below meth c 8 ad cy D (AW ad) s.heap 0 0 (MQ below (va_Qv (fun (u : Mem × MemL) => Q u.1 u.2) (BM ad cy D wc) (AW ad)) args s 0 0 (AW ad)) wc w wl 85 [(0, .ref (ad 150)), (1, .int l1), (3, .int l3), (4, .long l4)] [] := by
  intro n
  induction n with
  | zero =>
    intro l1 l3 l4 w wl h
    exact h.elim
  | succ n ih =>
    intro l1 l3 l4 w wl h
    unfold wp_12_cut_b85 at h
    refine V_aload_n X (i := 0) 0 dX12_cut_85 rfl rfl ?_
    refine V_iload_n X (i := 1) 1 dX12_cut_86 rfl rfl ?_
    refine V_iload_n X (i := 3) 2 dX12_cut_87 rfl rfl ?_
    refine V_iadd X dX12_cut_88 ?_
    refine K_12_byteAt X (Or.inl q_1452) hZ h ⟨Nat.le_of_ble_eq_true rfl, Nat.le_of_ble_eq_true rfl⟩ ⟨Nat.zero_le _, Nat.zero_le _⟩ (st1 := []) (Nat.le_of_ble_eq_true rfl) dX12_cut_89 (fun r2 w1 v3 h => ?_)
    refine K_12_isLetter X (Or.inl q_1460) hZ h ⟨Nat.le_of_ble_eq_true rfl, Nat.le_of_ble_eq_true rfl⟩ ⟨Nat.zero_le _, Nat.zero_le _⟩ (st1 := []) (Nat.le_of_ble_eq_true rfl) dX12_cut_92 (fun r5 w4 v6 h => ?_)
    obtain ⟨ht, hf⟩ := h
    refine V_if_eq X (tgt := 124) dX12_cut_95 (by decide) (fun c => ?_) (fun c => ?_)
    · have h := ht c
      refine V_iload_n X (i := 3) 2 dX12_cut_124 rfl rfl ?_
      refine V_bipush X (v := (8 : Int32)) dX12_cut_125 (by decide) ?_
      obtain ⟨ht, hf⟩ := h
      refine V_icmp_le X (tgt := 134) dX12_cut_127 (by decide) (fun c => ?_) (fun c => ?_)
      · have h := ht c
        refine V_iconst X (v := (1 : Int32)) dX12_cut_134 (by decide) ?_
        refine V_sub X (ls1 := [(0, .ref (ad 150)), (1, .int l1), (3, .int l3), (4, .long l4)]) [0, 1, 2, 3] rfl ?_
        exact v_12_cut_b135 X hr hZ HL7 _ _ _ _ _ _ h
      · have h := hf c
        refine V_iconst X (v := (3 : Int32)) dX12_cut_130 (by decide) ?_
        refine V_goto X (tgt := 135) dX12_cut_131 (by decide) ?_
        refine V_sub X (ls1 := [(0, .ref (ad 150)), (1, .int l1), (3, .int l3), (4, .long l4)]) [0, 1, 2, 3] rfl ?_
        exact v_12_cut_b135 X hr hZ HL7 _ _ _ _ _ _ h
    · have h := hf c
      refine V_iload_n X (i := 3) 2 dX12_cut_98 rfl rfl ?_
      refine V_bipush X (v := (8 : Int32)) dX12_cut_99 (by decide) ?_
      obtain ⟨ht, hf⟩ := h
      refine V_icmp_ge X (tgt := 118) dX12_cut_101 (by decide) (fun c => ?_) (fun c => ?_)
      · have h := ht c
        refine V_sub X (ls1 := [(0, .ref (ad 150)), (1, .int l1), (3, .int l3), (4, .long l4)]) [0, 1, 2, 3] rfl ?_
        exact v_12_cut_b118 X hr hZ HL7 ih _ _ _ _ _ h
      · have h := hf c
        refine V_lload X (i := 4) 3 dX12_cut_104 rfl ?_
        refine V_aload_n X (i := 0) 0 dX12_cut_106 rfl rfl ?_
        refine V_iload_n X (i := 1) 1 dX12_cut_107 rfl rfl ?_
        refine V_iload_n X (i := 3) 2 dX12_cut_108 rfl rfl ?_
        refine V_iadd X dX12_cut_109 ?_
        refine K_12_byteAt X (Or.inl q_1452) hZ h ⟨Nat.le_of_ble_eq_true rfl, Nat.le_of_ble_eq_true rfl⟩ ⟨Nat.zero_le _, Nat.zero_le _⟩ (st1 := [.long l4]) (Nat.le_of_ble_eq_true rfl) dX12_cut_110 (fun r8 w7 v9 h => ?_)
        refine K_12_appends X (Or.inl q_1195) hZ h ⟨Nat.le_of_ble_eq_true rfl, Nat.le_of_ble_eq_true rfl⟩ ⟨Nat.zero_le _, Nat.zero_le _⟩ (st1 := []) (Nat.le_of_ble_eq_true rfl) dX12_cut_113 (fun r11 w10 v12 h => ?_)
        refine V_lstore X dX12_cut_116 (by decide) rfl (ls1 := [(4, .long r11), (0, .ref (ad 150)), (1, .int l1), (3, .int l3)]) rfl ?_
        refine V_sub X (ls1 := [(0, .ref (ad 150)), (1, .int l1), (3, .int l3), (4, .long r11)]) [1, 2, 3, 0] rfl ?_
        exact v_12_cut_b118 X hr hZ HL7 ih _ _ _ _ _ h
set_option maxRecDepth 20000 in
theorem v_12_cut_b67 (X : CXq p s m args meth c cX12_cut 8 yX12_cut.cls ad cy D (AW ad) s.heap) (hr : meth.sig.returnType = none) (hZ : ad 1000 = 189) {Q : Mem → MemL → Prop} {L7 : Int32 → Mem → MemL → Prop} (HL7 : ∀ (l1 : Int32) (w : Mem) (wl : MemL), L7 l1 w wl → V p l e (RM 2) s m args below meth c 8 ad cy D (AW ad) s.heap 0 0 (MQ below (va_Qv (fun (u : Mem × MemL) => Q u.1 u.2) (BM ad cy D wc) (AW ad)) args s 0 0 (AW ad)) wc w wl 7 [(0, .ref (ad 150)), (1, .int l1)] []) : ∀ (l1 : Int32) (w : Mem) (wl : MemL), wp_12_cut_b67 Q L7 l1 w wl → V p l e (RM 2) s m args below meth c 8 ad cy D (AW ad) s.heap 0 0 (MQ below (va_Qv (fun (u : Mem × MemL) => Q u.1 u.2) (BM ad cy D wc) (AW ad)) args s 0 0 (AW ad)) wc w wl 67 [(0, .ref (ad 150)), (1, .int l1)] [] := by
  intro l1 w wl h
  unfold wp_12_cut_b67 at h
  obtain ⟨x1, ex1⟩ : ∃ y : Int32, y = l1 + (1 : Int32) := ⟨_, rfl⟩
  have h := h x1 ex1
  refine V_iinc X 1 dX12_cut_67 rfl (by decide) (by rw [ex1]; rfl) (ls1 := [(1, .int x1), (0, .ref (ad 150))]) rfl ?_
  refine V_goto X (tgt := 291) dX12_cut_70 (by decide) ?_
  refine V_sub X (ls1 := [(0, .ref (ad 150)), (1, .int x1)]) [1, 0] rfl ?_
  exact v_12_cut_b291 X hr hZ HL7 _ _ _ h
set_option maxRecDepth 20000 in
theorem v_12_cut_b7 (X : CXq p s m args meth c cX12_cut 8 yX12_cut.cls ad cy D (AW ad) s.heap) (hr : meth.sig.returnType = none) (hZ : ad 1000 = 189) {Q : Mem → MemL → Prop} : ∀ (n : Nat) (l1 : Int32) (w : Mem) (wl : MemL), wp_12_cut_b7 Q n l1 w wl → V p l e (RM 2) s m args below meth c 8 ad cy D (AW ad) s.heap 0 0 (MQ below (va_Qv (fun (u : Mem × MemL) => Q u.1 u.2) (BM ad cy D wc) (AW ad)) args s 0 0 (AW ad)) wc w wl 7 [(0, .ref (ad 150)), (1, .int l1)] [] := by
  intro n
  induction n with
  | zero =>
    intro l1 w wl h
    exact h.elim
  | succ n ih =>
    intro l1 w wl h
    unfold wp_12_cut_b7 at h
    refine V_aload_n X (i := 0) 0 dX12_cut_7 rfl rfl ?_
    refine G_12_166 X hZ dX12_cut_8 ?_
    refine V_sipush X (v := (400 : Int32)) dX12_cut_11 (by decide) ?_
    obtain ⟨ht, hf⟩ := h
    refine V_icmp_gt X (tgt := 294) dX12_cut_14 (by decide) (fun c => ?_) (fun c => ?_)
    · have h := ht c
      exact V_vret_m X hr dX12_cut_294 h
    · have h := hf c
      refine V_aload_n X (i := 0) 0 dX12_cut_17 rfl rfl ?_
      refine V_iload_n X (i := 1) 1 dX12_cut_18 rfl rfl ?_
      refine K_12_byteAt X (Or.inl q_1452) hZ h ⟨Nat.le_of_ble_eq_true rfl, Nat.le_of_ble_eq_true rfl⟩ ⟨Nat.zero_le _, Nat.zero_le _⟩ (st1 := []) (Nat.le_of_ble_eq_true rfl) dX12_cut_19 (fun r2 w1 v3 h => ?_)
      refine V_istore_n X dX12_cut_22 rfl (by decide) rfl (ls1 := [(2, .int r2), (0, .ref (ad 150)), (1, .int l1)]) rfl ?_
      refine V_iload_n X (i := 1) 2 dX12_cut_23 rfl rfl ?_
      refine V_aload_n X (i := 0) 1 dX12_cut_24 rfl rfl ?_
      refine G_12_157 X hZ dX12_cut_25 ?_
      obtain ⟨ht, hf⟩ := h
      refine V_icmp_lt X (tgt := 43) dX12_cut_28 (by decide) (fun c => ?_) (fun c => ?_)
      · have h := ht c
        refine V_iload_n X (i := 2) 0 dX12_cut_43 rfl rfl ?_
        refine V_bipush X (v := (9 : Int32)) dX12_cut_44 (by decide) ?_
        obtain ⟨ht, hf⟩ := h
        refine V_icmp_eq X (tgt := 67) dX12_cut_46 (by decide) (fun c => ?_) (fun c => ?_)
        · have h := ht c
          refine V_sub X (ls1 := [(0, .ref (ad 150)), (1, .int l1)]) [1, 2] rfl ?_
          exact v_12_cut_b67 X hr hZ ih _ _ _ h
        · have h := hf c
          refine V_iload_n X (i := 2) 0 dX12_cut_49 rfl rfl ?_
          refine V_bipush X (v := (10 : Int32)) dX12_cut_50 (by decide) ?_
          obtain ⟨ht, hf⟩ := h
          refine V_icmp_eq X (tgt := 67) dX12_cut_52 (by decide) (fun c => ?_) (fun c => ?_)
          · have h := ht c
            refine V_sub X (ls1 := [(0, .ref (ad 150)), (1, .int l1)]) [1, 2] rfl ?_
            exact v_12_cut_b67 X hr hZ ih _ _ _ h
          · have h := hf c
            refine V_iload_n X (i := 2) 0 dX12_cut_55 rfl rfl ?_
            refine V_bipush X (v := (13 : Int32)) dX12_cut_56 (by decide) ?_
            obtain ⟨ht, hf⟩ := h
            refine V_icmp_eq X (tgt := 67) dX12_cut_58 (by decide) (fun c => ?_) (fun c => ?_)
            · have h := ht c
              refine V_sub X (ls1 := [(0, .ref (ad 150)), (1, .int l1)]) [1, 2] rfl ?_
              exact v_12_cut_b67 X hr hZ ih _ _ _ h
            · have h := hf c
              refine V_iload_n X (i := 2) 0 dX12_cut_61 rfl rfl ?_
              refine V_bipush X (v := (32 : Int32)) dX12_cut_62 (by decide) ?_
              obtain ⟨ht, hf⟩ := h
              refine V_icmp_ne X (tgt := 73) dX12_cut_64 (by decide) (fun c => ?_) (fun c => ?_)
              · have h := ht c
                refine V_iload_n X (i := 2) 0 dX12_cut_73 rfl rfl ?_
                refine K_12_isLetter X (Or.inl q_1460) hZ h ⟨Nat.le_of_ble_eq_true rfl, Nat.le_of_ble_eq_true rfl⟩ ⟨Nat.zero_le _, Nat.zero_le _⟩ (st1 := []) (Nat.le_of_ble_eq_true rfl) dX12_cut_74 (fun r5 w4 v6 h => ?_)
                obtain ⟨ht, hf⟩ := h
                refine V_if_eq X (tgt := 196) dX12_cut_77 (by decide) (fun c => ?_) (fun c => ?_)
                · have h := ht c
                  refine V_iload_n X (i := 2) 0 dX12_cut_196 rfl rfl ?_
                  refine K_12_isDigit X (Or.inl q_1463) hZ h ⟨Nat.le_of_ble_eq_true rfl, Nat.le_of_ble_eq_true rfl⟩ ⟨Nat.zero_le _, Nat.zero_le _⟩ (st1 := []) (Nat.le_of_ble_eq_true rfl) dX12_cut_197 (fun r8 w7 v9 h => ?_)
                  obtain ⟨ht, hf⟩ := h
                  refine V_if_eq X (tgt := 275) dX12_cut_200 (by decide) (fun c => ?_) (fun c => ?_)
                  · have h := ht c
                    refine V_iload_n X (i := 1) 2 dX12_cut_275 rfl rfl ?_
                    refine V_aload_n X (i := 0) 1 dX12_cut_276 rfl rfl ?_
                    refine V_iload_n X (i := 1) 2 dX12_cut_277 rfl rfl ?_
                    refine V_iload_n X (i := 2) 0 dX12_cut_278 rfl rfl ?_
                    refine V_aload_n X (i := 0) 1 dX12_cut_279 rfl rfl ?_
                    refine V_iload_n X (i := 1) 2 dX12_cut_280 rfl rfl ?_
                    refine V_iconst X (v := (1 : Int32)) dX12_cut_281 (by decide) ?_
                    refine V_iadd X dX12_cut_282 ?_
                    refine K_12_byteAt X (Or.inl q_1452) hZ h ⟨Nat.le_of_ble_eq_true rfl, Nat.le_of_ble_eq_true rfl⟩ ⟨Nat.zero_le _, Nat.zero_le _⟩ (st1 := [.int r2, .int l1, .ref (ad 150), .int l1]) (Nat.le_of_ble_eq_true rfl) dX12_cut_283 (fun r11 w10 v12 h => ?_)
                    refine K_12_sign X (Or.inl q_1466) hZ h ⟨Nat.le_of_ble_eq_true rfl, Nat.le_of_ble_eq_true rfl⟩ ⟨Nat.zero_le _, Nat.zero_le _⟩ (st1 := [.int l1]) (Nat.le_of_ble_eq_true rfl) dX12_cut_286 (fun r14 w13 v15 h => ?_)
                    refine V_iadd X dX12_cut_289 ?_
                    obtain ⟨x16, ex16⟩ : ∃ y : Int32, y = (l1 + r14) := ⟨_, rfl⟩
                    have h := h x16 ex16
                    refine V_istore_n X dX12_cut_290 rfl (by decide) ex16 (ls1 := [(1, .int x16), (2, .int r2), (0, .ref (ad 150))]) rfl ?_
                    refine V_sub X (ls1 := [(0, .ref (ad 150)), (1, .int x16)]) [2, 0] rfl ?_
                    exact v_12_cut_b291 X hr hZ ih _ _ _ h
                  · have h := hf c
                    refine V_iconst X (v := (0 : Int32)) dX12_cut_203 (by decide) ?_
                    refine V_istore_n X dX12_cut_204 rfl (by decide) rfl (ls1 := [(3, .int (0 : Int32)), (2, .int r2), (0, .ref (ad 150)), (1, .int l1)]) rfl ?_
                    refine V_iconst X (v := (0 : Int32)) dX12_cut_205 (by decide) ?_
                    refine V_istore X dX12_cut_206 (by decide) rfl (ls1 := [(4, .int (0 : Int32)), (3, .int (0 : Int32)), (2, .int r2), (0, .ref (ad 150)), (1, .int l1)]) rfl ?_
                    refine V_sub X (ls1 := [(0, .ref (ad 150)), (1, .int l1), (3, .int (0 : Int32)), (4, .int (0 : Int32))]) [3, 4, 1, 0] rfl ?_
                    obtain ⟨nn, h⟩ := h
                    exact v_12_cut_b208 X hr hZ ih nn _ _ _ _ _ h
                · have h := hf c
                  refine V_iconst X (v := (0 : Int32)) dX12_cut_80 (by decide) ?_
                  refine V_istore_n X dX12_cut_81 rfl (by decide) rfl (ls1 := [(3, .int (0 : Int32)), (2, .int r2), (0, .ref (ad 150)), (1, .int l1)]) rfl ?_
                  refine V_lconst X (v := (0 : Int64)) dX12_cut_82 (by decide) ?_
                  obtain ⟨x17, ex17⟩ : ∃ y : Int64, y = (0 : Int64) := ⟨_, rfl⟩
                  have h := h x17 ex17
                  refine V_lstore X dX12_cut_83 (by decide) ex17 (ls1 := [(4, .long x17), (3, .int (0 : Int32)), (2, .int r2), (0, .ref (ad 150)), (1, .int l1)]) rfl ?_
                  refine V_sub X (ls1 := [(0, .ref (ad 150)), (1, .int l1), (3, .int (0 : Int32)), (4, .long x17)]) [3, 4, 1, 0] rfl ?_
                  obtain ⟨nn, h⟩ := h
                  exact v_12_cut_b85 X hr hZ ih nn _ _ _ _ _ h
              · have h := hf c
                refine V_sub X (ls1 := [(0, .ref (ad 150)), (1, .int l1)]) [1, 2] rfl ?_
                exact v_12_cut_b67 X hr hZ ih _ _ _ h
      · have h := hf c
        refine V_aload_n X (i := 0) 1 dX12_cut_31 rfl rfl ?_
        refine V_iconst X (v := (0 : Int32)) dX12_cut_32 (by decide) ?_
        refine V_aload_n X (i := 0) 1 dX12_cut_33 rfl rfl ?_
        refine G_12_157 X hZ dX12_cut_34 ?_
        refine V_iconst X (v := (0 : Int32)) dX12_cut_37 (by decide) ?_
        refine V_lconst X (v := (0 : Int64)) dX12_cut_38 (by decide) ?_
        refine K_12_token X (Or.inl q_1456) hZ h ⟨Nat.le_of_ble_eq_true rfl, Nat.le_of_ble_eq_true rfl⟩ ⟨Nat.zero_le _, Nat.zero_le _⟩ (st1 := []) (Nat.le_of_ble_eq_true rfl) dX12_cut_39 (fun w18 v19 h => ?_)
        exact V_vret_m X hr dX12_cut_42 h
set_option maxRecDepth 20000 in
theorem v_12_cut (X : CXq p s m args meth c cX12_cut 8 yX12_cut.cls ad cy D (AW ad) s.heap) (hr : meth.sig.returnType = none) (hZ : ad 1000 = 189) {w : Mem} {wl : MemL} {Q : Mem → MemL → Prop} (h : wp_12_cut w wl Q) : V p l e (RM 2) s m args below meth c 8 ad cy D (AW ad) s.heap 0 0 (MQ below (va_Qv (fun (u : Mem × MemL) => Q u.1 u.2) (BM ad cy D wc) (AW ad)) args s 0 0 (AW ad)) wc w wl 0 [(0, .ref (ad 150))] [] := by
  unfold wp_12_cut at h
  refine V_aload_n X (i := 0) 0 dX12_cut_0 rfl rfl ?_
  refine V_iconst X (v := (0 : Int32)) dX12_cut_1 (by decide) ?_
  obtain ⟨w1, ew1⟩ : ∃ y : Mem, y = st w 150 10 (0 : Int32) := ⟨_, rfl⟩
  have h := h w1 ew1
  refine U_12_166 X hZ rfl rfl dX12_cut_2 ew1 ?_
  refine V_iconst X (v := (0 : Int32)) dX12_cut_5 (by decide) ?_
  refine V_istore_n X dX12_cut_6 rfl (by decide) rfl (ls1 := [(1, .int (0 : Int32)), (0, .ref (ad 150))]) rfl ?_
  refine V_sub X (ls1 := [(0, .ref (ad 150)), (1, .int (0 : Int32))]) [1, 0] rfl ?_
  obtain ⟨nn, h⟩ := h
  exact v_12_cut_b7 X hr hZ nn _ _ _ h
theorem c_12_cut (hinj : INJ ad) (hZ : ad 1000 = 189) {w : Mem} {wl : MemL} {Q : Mem → MemL → Prop} (h : wp_12_cut w wl Q) : Met l yX12_cut (TBq yX12_cut cX12_cut 8 none) (RM 2) (va_Pc [.ref (ad 150)] (PB ad cy D (cmb wc w) wl)) (va_Qv (fun (u : Mem × MemL) => Q u.1 u.2) (BM ad cy D wc) (AW ad)) 0 0 (AW ad) := M_enter (by decide) (Nat.le_of_ble_eq_true rfl) hinj (fun p e s m args below meth c X hr => v_12_cut X hr hZ h)
theorem mf_12_cut : MFV yX12_cut cX12_cut 8 none yX12_cut.cls 0 := ⟨q_1451, q_1450, qs_43, q_14, by decide⟩
theorem K_12_cut {own : String} {idx : Nat} (X : CXq p s m args meth c cc nL own ad cy D A H0) (hL : LK own idx yX12_cut) (hZ : ad 1000 = 189) {w : Mem} {wl : MemL} {Q : Mem → MemL → Prop} (h : wp_12_cut w wl Q) (hR : (RM 2).frames + 1 ≤ R.frames ∧ 8 + (8 + 11) + (RM 2).locals ≤ R.locals) (hce : ce ≤ R.cells ∧ sl ≤ R.slots) (hcat : (st1.map fun v => v.category).sum ≤ 8) (hd : decode cc pc = .ok (.invokevirtual idx, 3)) (kk : ∀ (u : Mem) (v : MemL), Q u v → V p l e R s m args below meth c nL ad cy D A H0 ce sl Qs wc u v (pc + 3) ls st1) : V p l e R s m args below meth c nL ad cy D A H0 ce sl Qs wc w wl pc ls (.ref (ad 150) :: st1) := V_callVV_m X mf_12_cut hL (rfl : vwCl[12]? = some (RX12, TX12, 72)) (by decide) (rfl : SK 150 = 12) (hzk hZ (by decide)).2 (c_12_cut X.2.2.2.2.2.2.2.1 hZ h) (As := []) rfl ⟨rfl, rfl⟩ hR hce st1 rfl hcat hd kk
set_option maxRecDepth 20000 in
theorem v_12_is_b24 (X : CXq p s m args meth c cX12_is 2 yX12_is.cls ad cy D (AW ad) s.heap) (hr : meth.sig.returnType = (some .boolean)) (hZ : ad 1000 = 189) {Q : Int32 → Mem → MemL → Prop} : ∀ (w : Mem) (wl : MemL), wp_12_is_b24 Q w wl → V p l e (RM 0) s m args below meth c 2 ad cy D (AW ad) s.heap 0 0 (MQ below (va_Qi (fun r (u : Mem × MemL) => Q r u.1 u.2) (BM ad cy D wc) (AW ad)) args s 0 0 (AW ad)) wc w wl 24 [] [] := by
  intro w wl h
  unfold wp_12_is_b24 at h
  refine V_iconst X (v := (0 : Int32)) dX12_is_24 (by decide) ?_
  exact V_zret_m X hr dX12_is_25 rfl h
set_option maxRecDepth 20000 in
theorem v_12_is {a1 : Int32} (X : CXq p s m args meth c cX12_is 2 yX12_is.cls ad cy D (AW ad) s.heap) (hr : meth.sig.returnType = (some .boolean)) (hZ : ad 1000 = 189) {w : Mem} {wl : MemL} {Q : Int32 → Mem → MemL → Prop} (h : wp_12_is a1 w wl Q) : V p l e (RM 0) s m args below meth c 2 ad cy D (AW ad) s.heap 0 0 (MQ below (va_Qi (fun r (u : Mem × MemL) => Q r u.1 u.2) (BM ad cy D wc) (AW ad)) args s 0 0 (AW ad)) wc w wl 0 [(0, .ref (ad 150)), (1, .int a1)] [] := by
  unfold wp_12_is at h
  refine V_aload_n X (i := 0) 0 dX12_is_0 rfl rfl ?_
  refine G_12_188 X hZ dX12_is_1 ?_
  obtain ⟨ht, hf⟩ := h
  refine V_if_ne X (tgt := 24) dX12_is_4 (by decide) (fun c => ?_) (fun c => ?_)
  · have h := ht c
    refine V_sub X (ls1 := []) [] rfl ?_
    exact v_12_is_b24 X hr hZ _ _ h
  · have h := hf c
    refine V_aload_n X (i := 0) 0 dX12_is_7 rfl rfl ?_
    refine G_12_20 X hZ dX12_is_8 ?_
    refine V_aload_n X (i := 0) 0 dX12_is_11 rfl rfl ?_
    refine G_12_191 X hZ dX12_is_12 ?_
    obtain ⟨g1, h⟩ := h
    refine V_iald_m X (rfl : SLq 153 = 403) (hzk hZ (by decide)) (rfl : SK 153 = 14) g1 dX12_is_15 ?_
    refine V_iload_n X (i := 1) 1 dX12_is_16 rfl rfl ?_
    obtain ⟨ht, hf⟩ := h
    refine V_icmp_ne X (tgt := 24) dX12_is_17 (by decide) (fun c => ?_) (fun c => ?_)
    · have h := ht c
      refine V_sub X (ls1 := []) [] rfl ?_
      exact v_12_is_b24 X hr hZ _ _ h
    · have h := hf c
      refine V_iconst X (v := (1 : Int32)) dX12_is_20 (by decide) ?_
      refine V_goto X (tgt := 25) dX12_is_21 (by decide) ?_
      exact V_zret_m X hr dX12_is_25 rfl h
theorem c_12_is {a1 : Int32} (hinj : INJ ad) (hZ : ad 1000 = 189) {w : Mem} {wl : MemL} {Q : Int32 → Mem → MemL → Prop} (h : wp_12_is a1 w wl Q) : Met l yX12_is (TBq yX12_is cX12_is 2 (some .boolean)) (RM 0) (va_Pc [.ref (ad 150), .int a1] (PB ad cy D (cmb wc w) wl)) (va_Qi (fun r (u : Mem × MemL) => Q r u.1 u.2) (BM ad cy D wc) (AW ad)) 0 0 (AW ad) := M_enter (by decide) (Nat.le_of_ble_eq_true rfl) hinj (fun p e s m args below meth c X hr => v_12_is X hr hZ h)
theorem mf_12_is : MFV yX12_is cX12_is 2 (some .boolean) yX12_is.cls 1 := ⟨q_1473, q_1472, qs_47, q_14, by decide⟩
theorem K_12_is {own : String} {idx : Nat} {a1 : Int32} (X : CXq p s m args meth c cc nL own ad cy D A H0) (hL : LK own idx yX12_is) (hZ : ad 1000 = 189) {w : Mem} {wl : MemL} {Q : Int32 → Mem → MemL → Prop} (h : wp_12_is a1 w wl Q) (hR : (RM 0).frames + 1 ≤ R.frames ∧ 8 + (2 + 11) + (RM 0).locals ≤ R.locals) (hce : ce ≤ R.cells ∧ sl ≤ R.slots) (hcat : (st1.map fun v => v.category).sum ≤ 8) (hd : decode cc pc = .ok (.invokevirtual idx, 3)) (kk : ∀ (r : Int32) (u : Mem) (v : MemL), Q r u v → V p l e R s m args below meth c nL ad cy D A H0 ce sl Qs wc u v (pc + 3) ls (.int r :: st1)) : V p l e R s m args below meth c nL ad cy D A H0 ce sl Qs wc w wl pc ls (.int a1 :: .ref (ad 150) :: st1) := V_callVI_m X mf_12_is hL (rfl : vwCl[12]? = some (RX12, TX12, 72)) (by decide) (rfl : SK 150 = 12) (hzk hZ (by decide)).2 (c_12_is X.2.2.2.2.2.2.2.1 hZ h) (As := [.int a1]) rfl ⟨rfl, rfl⟩ hR hce st1 rfl hcat hd kk
set_option maxRecDepth 20000 in
theorem v_12_fail {a1 : Int32} (X : CXq p s m args meth c cX12_fail 2 yX12_fail.cls ad cy D (AW ad) s.heap) (hr : meth.sig.returnType = none) (hZ : ad 1000 = 189) {w : Mem} {wl : MemL} {Q : Mem → MemL → Prop} (h : wp_12_fail a1 w wl Q) : V p l e (RM 0) s m args below meth c 2 ad cy D (AW ad) s.heap 0 0 (MQ below (va_Qv (fun (u : Mem × MemL) => Q u.1 u.2) (BM ad cy D wc) (AW ad)) args s 0 0 (AW ad)) wc w wl 0 [(0, .ref (ad 150)), (1, .int a1)] [] := by
  unfold wp_12_fail at h
  refine V_aload_n X (i := 0) 0 dX12_fail_0 rfl rfl ?_
  refine G_12_188 X hZ dX12_fail_1 ?_
  obtain ⟨ht, hf⟩ := h
  refine V_if_le X (tgt := 8) dX12_fail_4 (by decide) (fun c => ?_) (fun c => ?_)
  · have h := ht c
    refine V_aload_n X (i := 0) 0 dX12_fail_8 rfl rfl ?_
    refine V_iload_n X (i := 1) 1 dX12_fail_9 rfl rfl ?_
    obtain ⟨w1, ew1⟩ : ∃ y : Mem, y = st w 150 13 a1 := ⟨_, rfl⟩
    have h := h w1 ew1
    refine U_12_188 X hZ rfl rfl dX12_fail_10 ew1 ?_
    refine V_aload_n X (i := 0) 0 dX12_fail_13 rfl rfl ?_
    refine V_aload_n X (i := 0) 0 dX12_fail_14 rfl rfl ?_
    refine G_12_24 X hZ dX12_fail_15 ?_
    refine V_aload_n X (i := 0) 0 dX12_fail_18 rfl rfl ?_
    refine G_12_191 X hZ dX12_fail_19 ?_
    obtain ⟨g2, h⟩ := h
    refine V_iald_m X (rfl : SLq 154 = 403) (hzk hZ (by decide)) (rfl : SK 154 = 14) g2 dX12_fail_22 ?_
    obtain ⟨w3, ew3⟩ : ∃ y : Mem, y = st w1 150 14 (w1 154 (ix (w1 150 11))) := ⟨_, rfl⟩
    have h := h w3 ew3
    refine U_12_194 X hZ rfl rfl dX12_fail_23 ew3 ?_
    exact V_vret_m X hr dX12_fail_26 h
  · have h := hf c
    exact V_vret_m X hr dX12_fail_7 h
theorem c_12_fail {a1 : Int32} (hinj : INJ ad) (hZ : ad 1000 = 189) {w : Mem} {wl : MemL} {Q : Mem → MemL → Prop} (h : wp_12_fail a1 w wl Q) : Met l yX12_fail (TBq yX12_fail cX12_fail 2 none) (RM 0) (va_Pc [.ref (ad 150), .int a1] (PB ad cy D (cmb wc w) wl)) (va_Qv (fun (u : Mem × MemL) => Q u.1 u.2) (BM ad cy D wc) (AW ad)) 0 0 (AW ad) := M_enter (by decide) (Nat.le_of_ble_eq_true rfl) hinj (fun p e s m args below meth c X hr => v_12_fail X hr hZ h)
theorem mf_12_fail : MFV yX12_fail cX12_fail 2 none yX12_fail.cls 1 := ⟨q_1485, q_1484, qs_50, q_14, by decide⟩
theorem K_12_fail {own : String} {idx : Nat} {a1 : Int32} (X : CXq p s m args meth c cc nL own ad cy D A H0) (hL : LK own idx yX12_fail) (hZ : ad 1000 = 189) {w : Mem} {wl : MemL} {Q : Mem → MemL → Prop} (h : wp_12_fail a1 w wl Q) (hR : (RM 0).frames + 1 ≤ R.frames ∧ 8 + (2 + 11) + (RM 0).locals ≤ R.locals) (hce : ce ≤ R.cells ∧ sl ≤ R.slots) (hcat : (st1.map fun v => v.category).sum ≤ 8) (hd : decode cc pc = .ok (.invokevirtual idx, 3)) (kk : ∀ (u : Mem) (v : MemL), Q u v → V p l e R s m args below meth c nL ad cy D A H0 ce sl Qs wc u v (pc + 3) ls st1) : V p l e R s m args below meth c nL ad cy D A H0 ce sl Qs wc w wl pc ls (.int a1 :: .ref (ad 150) :: st1) := V_callVV_m X mf_12_fail hL (rfl : vwCl[12]? = some (RX12, TX12, 72)) (by decide) (rfl : SK 150 = 12) (hzk hZ (by decide)).2 (c_12_fail X.2.2.2.2.2.2.2.1 hZ h) (As := [.int a1]) rfl ⟨rfl, rfl⟩ hR hce st1 rfl hcat hd kk
set_option maxRecDepth 20000 in
theorem v_12_wrong_b46 (X : CXq p s m args meth c cX12_wrong 4 yX12_wrong.cls ad cy D (AW ad) s.heap) (hr : meth.sig.returnType = none) (hZ : ad 1000 = 189) {Q : Mem → MemL → Prop} : ∀ (l1 : Int32) (l3 : Int32) (w : Mem) (wl : MemL), wp_12_wrong_b46 Q l1 l3 w wl → V p l e (RM 0) s m args below meth c 4 ad cy D (AW ad) s.heap 0 0 (MQ below (va_Qv (fun (u : Mem × MemL) => Q u.1 u.2) (BM ad cy D wc) (AW ad)) args s 0 0 (AW ad)) wc w wl 46 [(0, .ref (ad 150)), (1, .int l1), (3, .int l3)] [] := by
  intro l1 l3 w wl h
  unfold wp_12_wrong_b46 at h
  refine V_aload_n X (i := 0) 0 dX12_wrong_46 rfl rfl ?_
  refine V_iload_n X (i := 1) 1 dX12_wrong_47 rfl rfl ?_
  obtain ⟨w1, ew1⟩ : ∃ y : Mem, y = st w 150 15 l1 := ⟨_, rfl⟩
  have h := h w1 ew1
  refine U_12_197 X hZ rfl rfl dX12_wrong_48 ew1 ?_
  refine V_aload_n X (i := 0) 0 dX12_wrong_51 rfl rfl ?_
  refine V_iload_n X (i := 3) 2 dX12_wrong_52 rfl rfl ?_
  obtain ⟨w2, ew2⟩ : ∃ y : Mem, y = st w1 150 16 l3 := ⟨_, rfl⟩
  have h := h w2 ew2
  refine U_12_200 X hZ rfl rfl dX12_wrong_53 ew2 ?_
  exact V_vret_m X hr dX12_wrong_56 h
set_option maxRecDepth 20000 in
theorem v_12_wrong {a1 : Int32} {a2 : Int32} (X : CXq p s m args meth c cX12_wrong 4 yX12_wrong.cls ad cy D (AW ad) s.heap) (hr : meth.sig.returnType = none) (hZ : ad 1000 = 189) {w : Mem} {wl : MemL} {Q : Mem → MemL → Prop} (h : wp_12_wrong a1 a2 w wl Q) : V p l e (RM 0) s m args below meth c 4 ad cy D (AW ad) s.heap 0 0 (MQ below (va_Qv (fun (u : Mem × MemL) => Q u.1 u.2) (BM ad cy D wc) (AW ad)) args s 0 0 (AW ad)) wc w wl 0 [(0, .ref (ad 150)), (1, .int a1), (2, .int a2)] [] := by
  unfold wp_12_wrong at h
  refine V_aload_n X (i := 0) 0 dX12_wrong_0 rfl rfl ?_
  refine G_12_24 X hZ dX12_wrong_1 ?_
  refine V_iload_n X (i := 2) 2 dX12_wrong_4 rfl rfl ?_
  obtain ⟨g1, h⟩ := h
  refine V_iald_m X (rfl : SLq 154 = 403) (hzk hZ (by decide)) (rfl : SK 154 = 14) g1 dX12_wrong_5 ?_
  obtain ⟨x2, ex2⟩ : ∃ y : Int32, y = (w 154 (ix a2)) := ⟨_, rfl⟩
  have h := h x2 ex2
  refine V_istore_n X dX12_wrong_6 rfl (by decide) ex2 (ls1 := [(3, .int x2), (0, .ref (ad 150)), (1, .int a1), (2, .int a2)]) rfl ?_
  refine V_aload_n X (i := 0) 1 dX12_wrong_7 rfl rfl ?_
  refine G_12_188 X hZ dX12_wrong_8 ?_
  obtain ⟨ht, hf⟩ := h
  refine V_if_gt X (tgt := 45) dX12_wrong_11 (by decide) (fun c => ?_) (fun c => ?_)
  · have h := ht c
    exact V_vret_m X hr dX12_wrong_45 h
  · have h := hf c
    refine V_aload_n X (i := 0) 1 dX12_wrong_14 rfl rfl ?_
    refine G_12_197 X hZ dX12_wrong_15 ?_
    obtain ⟨ht, hf⟩ := h
    refine V_if_eq X (tgt := 46) dX12_wrong_18 (by decide) (fun c => ?_) (fun c => ?_)
    · have h := ht c
      refine V_sub X (ls1 := [(0, .ref (ad 150)), (1, .int a1), (3, .int x2)]) [1, 2, 0] rfl ?_
      exact v_12_wrong_b46 X hr hZ _ _ _ _ h
    · have h := hf c
      refine V_iload_n X (i := 3) 0 dX12_wrong_21 rfl rfl ?_
      refine V_aload_n X (i := 0) 1 dX12_wrong_22 rfl rfl ?_
      refine G_12_200 X hZ dX12_wrong_23 ?_
      obtain ⟨ht, hf⟩ := h
      refine V_icmp_gt X (tgt := 45) dX12_wrong_26 (by decide) (fun c => ?_) (fun c => ?_)
      · have h := ht c
        exact V_vret_m X hr dX12_wrong_45 h
      · have h := hf c
        refine V_iload_n X (i := 3) 0 dX12_wrong_29 rfl rfl ?_
        refine V_aload_n X (i := 0) 1 dX12_wrong_30 rfl rfl ?_
        refine G_12_200 X hZ dX12_wrong_31 ?_
        obtain ⟨ht, hf⟩ := h
        refine V_icmp_ne X (tgt := 46) dX12_wrong_34 (by decide) (fun c => ?_) (fun c => ?_)
        · have h := ht c
          refine V_sub X (ls1 := [(0, .ref (ad 150)), (1, .int a1), (3, .int x2)]) [1, 2, 0] rfl ?_
          exact v_12_wrong_b46 X hr hZ _ _ _ _ h
        · have h := hf c
          refine V_iload_n X (i := 1) 2 dX12_wrong_37 rfl rfl ?_
          refine V_aload_n X (i := 0) 1 dX12_wrong_38 rfl rfl ?_
          refine G_12_197 X hZ dX12_wrong_39 ?_
          obtain ⟨ht, hf⟩ := h
          refine V_icmp_lt X (tgt := 46) dX12_wrong_42 (by decide) (fun c => ?_) (fun c => ?_)
          · have h := ht c
            refine V_sub X (ls1 := [(0, .ref (ad 150)), (1, .int a1), (3, .int x2)]) [1, 2, 0] rfl ?_
            exact v_12_wrong_b46 X hr hZ _ _ _ _ h
          · have h := hf c
            exact V_vret_m X hr dX12_wrong_45 h
theorem c_12_wrong {a1 : Int32} {a2 : Int32} (hinj : INJ ad) (hZ : ad 1000 = 189) {w : Mem} {wl : MemL} {Q : Mem → MemL → Prop} (h : wp_12_wrong a1 a2 w wl Q) : Met l yX12_wrong (TBq yX12_wrong cX12_wrong 4 none) (RM 0) (va_Pc [.ref (ad 150), .int a1, .int a2] (PB ad cy D (cmb wc w) wl)) (va_Qv (fun (u : Mem × MemL) => Q u.1 u.2) (BM ad cy D wc) (AW ad)) 0 0 (AW ad) := M_enter (by decide) (Nat.le_of_ble_eq_true rfl) hinj (fun p e s m args below meth c X hr => v_12_wrong X hr hZ h)
theorem mf_12_wrong : MFV yX12_wrong cX12_wrong 4 none yX12_wrong.cls 2 := ⟨q_1497, q_1496, qs_53, q_14, by decide⟩
theorem K_12_wrong {own : String} {idx : Nat} {a1 : Int32} {a2 : Int32} (X : CXq p s m args meth c cc nL own ad cy D A H0) (hL : LK own idx yX12_wrong) (hZ : ad 1000 = 189) {w : Mem} {wl : MemL} {Q : Mem → MemL → Prop} (h : wp_12_wrong a1 a2 w wl Q) (hR : (RM 0).frames + 1 ≤ R.frames ∧ 8 + (4 + 11) + (RM 0).locals ≤ R.locals) (hce : ce ≤ R.cells ∧ sl ≤ R.slots) (hcat : (st1.map fun v => v.category).sum ≤ 8) (hd : decode cc pc = .ok (.invokevirtual idx, 3)) (kk : ∀ (u : Mem) (v : MemL), Q u v → V p l e R s m args below meth c nL ad cy D A H0 ce sl Qs wc u v (pc + 3) ls st1) : V p l e R s m args below meth c nL ad cy D A H0 ce sl Qs wc w wl pc ls (.int a2 :: .int a1 :: .ref (ad 150) :: st1) := V_callVV_m X mf_12_wrong hL (rfl : vwCl[12]? = some (RX12, TX12, 72)) (by decide) (rfl : SK 150 = 12) (hzk hZ (by decide)).2 (c_12_wrong X.2.2.2.2.2.2.2.1 hZ h) (As := [.int a1, .int a2]) rfl ⟨rfl, rfl⟩ hR hce st1 rfl hcat hd kk
set_option maxRecDepth 20000 in
theorem v_12_goesOn (X : CXq p s m args meth c cX12_goesOn 1 yX12_goesOn.cls ad cy D (AW ad) s.heap) (hr : meth.sig.returnType = none) (hZ : ad 1000 = 189) {w : Mem} {wl : MemL} {Q : Mem → MemL → Prop} (h : wp_12_goesOn w wl Q) : V p l e (RM 1) s m args below meth c 1 ad cy D (AW ad) s.heap 0 0 (MQ below (va_Qv (fun (u : Mem × MemL) => Q u.1 u.2) (BM ad cy D wc) (AW ad)) args s 0 0 (AW ad)) wc w wl 0 [(0, .ref (ad 150))] [] := by
  unfold wp_12_goesOn at h
  refine V_aload_n X (i := 0) 0 dX12_goesOn_0 rfl rfl ?_
  refine G_12_191 X hZ dX12_goesOn_1 ?_
  refine V_sipush X (v := (400 : Int32)) dX12_goesOn_4 (by decide) ?_
  obtain ⟨ht, hf⟩ := h
  refine V_icmp_ne X (tgt := 18) dX12_goesOn_7 (by decide) (fun c => ?_) (fun c => ?_)
  · have h := ht c
    refine V_aload_n X (i := 0) 0 dX12_goesOn_18 rfl rfl ?_
    refine V_dup X dX12_goesOn_19 rfl ?_
    refine G_12_191 X hZ dX12_goesOn_20 ?_
    refine V_iconst X (v := (1 : Int32)) dX12_goesOn_23 (by decide) ?_
    refine V_iadd X dX12_goesOn_24 ?_
    obtain ⟨w1, ew1⟩ : ∃ y : Mem, y = st w 150 11 ((w 150 11) + (1 : Int32)) := ⟨_, rfl⟩
    have h := h w1 ew1
    refine U_12_191 X hZ rfl rfl dX12_goesOn_25 ew1 ?_
    exact V_vret_m X hr dX12_goesOn_28 h
  · have h := hf c
    refine V_aload_n X (i := 0) 0 dX12_goesOn_10 rfl rfl ?_
    refine V_iconst X (v := (2 : Int32)) dX12_goesOn_11 (by decide) ?_
    refine K_12_fail X (Or.inl q_1482) hZ h ⟨Nat.le_of_ble_eq_true rfl, Nat.le_of_ble_eq_true rfl⟩ ⟨Nat.zero_le _, Nat.zero_le _⟩ (st1 := []) (Nat.le_of_ble_eq_true rfl) dX12_goesOn_12 (fun w2 v3 h => ?_)
    refine V_goto X (tgt := 28) dX12_goesOn_15 (by decide) ?_
    exact V_vret_m X hr dX12_goesOn_28 h
theorem c_12_goesOn (hinj : INJ ad) (hZ : ad 1000 = 189) {w : Mem} {wl : MemL} {Q : Mem → MemL → Prop} (h : wp_12_goesOn w wl Q) : Met l yX12_goesOn (TBq yX12_goesOn cX12_goesOn 1 none) (RM 1) (va_Pc [.ref (ad 150)] (PB ad cy D (cmb wc w) wl)) (va_Qv (fun (u : Mem × MemL) => Q u.1 u.2) (BM ad cy D wc) (AW ad)) 0 0 (AW ad) := M_enter (by decide) (Nat.le_of_ble_eq_true rfl) hinj (fun p e s m args below meth c X hr => v_12_goesOn X hr hZ h)
theorem mf_12_goesOn : MFV yX12_goesOn cX12_goesOn 1 none yX12_goesOn.cls 0 := ⟨q_1481, q_1480, qs_49, q_14, by decide⟩
theorem K_12_goesOn {own : String} {idx : Nat} (X : CXq p s m args meth c cc nL own ad cy D A H0) (hL : LK own idx yX12_goesOn) (hZ : ad 1000 = 189) {w : Mem} {wl : MemL} {Q : Mem → MemL → Prop} (h : wp_12_goesOn w wl Q) (hR : (RM 1).frames + 1 ≤ R.frames ∧ 8 + (1 + 11) + (RM 1).locals ≤ R.locals) (hce : ce ≤ R.cells ∧ sl ≤ R.slots) (hcat : (st1.map fun v => v.category).sum ≤ 8) (hd : decode cc pc = .ok (.invokevirtual idx, 3)) (kk : ∀ (u : Mem) (v : MemL), Q u v → V p l e R s m args below meth c nL ad cy D A H0 ce sl Qs wc u v (pc + 3) ls st1) : V p l e R s m args below meth c nL ad cy D A H0 ce sl Qs wc w wl pc ls (.ref (ad 150) :: st1) := V_callVV_m X mf_12_goesOn hL (rfl : vwCl[12]? = some (RX12, TX12, 72)) (by decide) (rfl : SK 150 = 12) (hzk hZ (by decide)).2 (c_12_goesOn X.2.2.2.2.2.2.2.1 hZ h) (As := []) rfl ⟨rfl, rfl⟩ hR hce st1 rfl hcat hd kk
set_option maxRecDepth 20000 in
theorem v_12_must {a1 : Int32} (X : CXq p s m args meth c cX12_must 2 yX12_must.cls ad cy D (AW ad) s.heap) (hr : meth.sig.returnType = none) (hZ : ad 1000 = 189) {w : Mem} {wl : MemL} {Q : Mem → MemL → Prop} (h : wp_12_must a1 w wl Q) : V p l e (RM 2) s m args below meth c 2 ad cy D (AW ad) s.heap 0 0 (MQ below (va_Qv (fun (u : Mem × MemL) => Q u.1 u.2) (BM ad cy D wc) (AW ad)) args s 0 0 (AW ad)) wc w wl 0 [(0, .ref (ad 150)), (1, .int a1)] [] := by
  unfold wp_12_must at h
  refine V_aload_n X (i := 0) 0 dX12_must_0 rfl rfl ?_
  refine V_iload_n X (i := 1) 1 dX12_must_1 rfl rfl ?_
  refine K_12_is X (Or.inl q_1470) hZ h ⟨Nat.le_of_ble_eq_true rfl, Nat.le_of_ble_eq_true rfl⟩ ⟨Nat.zero_le _, Nat.zero_le _⟩ (st1 := []) (Nat.le_of_ble_eq_true rfl) dX12_must_2 (fun r2 w1 v3 h => ?_)
  obtain ⟨ht, hf⟩ := h
  refine V_if_eq X (tgt := 15) dX12_must_5 (by decide) (fun c => ?_) (fun c => ?_)
  · have h := ht c
    refine V_aload_n X (i := 0) 0 dX12_must_15 rfl rfl ?_
    refine V_iconst X (v := (1 : Int32)) dX12_must_16 (by decide) ?_
    refine K_12_fail X (Or.inl q_1482) hZ h ⟨Nat.le_of_ble_eq_true rfl, Nat.le_of_ble_eq_true rfl⟩ ⟨Nat.zero_le _, Nat.zero_le _⟩ (st1 := []) (Nat.le_of_ble_eq_true rfl) dX12_must_17 (fun w4 v5 h => ?_)
    exact V_vret_m X hr dX12_must_20 h
  · have h := hf c
    refine V_aload_n X (i := 0) 0 dX12_must_8 rfl rfl ?_
    refine K_12_goesOn X (Or.inl q_1478) hZ h ⟨Nat.le_of_ble_eq_true rfl, Nat.le_of_ble_eq_true rfl⟩ ⟨Nat.zero_le _, Nat.zero_le _⟩ (st1 := []) (Nat.le_of_ble_eq_true rfl) dX12_must_9 (fun w6 v7 h => ?_)
    refine V_goto X (tgt := 20) dX12_must_12 (by decide) ?_
    exact V_vret_m X hr dX12_must_20 h
theorem c_12_must {a1 : Int32} (hinj : INJ ad) (hZ : ad 1000 = 189) {w : Mem} {wl : MemL} {Q : Mem → MemL → Prop} (h : wp_12_must a1 w wl Q) : Met l yX12_must (TBq yX12_must cX12_must 2 none) (RM 2) (va_Pc [.ref (ad 150), .int a1] (PB ad cy D (cmb wc w) wl)) (va_Qv (fun (u : Mem × MemL) => Q u.1 u.2) (BM ad cy D wc) (AW ad)) 0 0 (AW ad) := M_enter (by decide) (Nat.le_of_ble_eq_true rfl) hinj (fun p e s m args below meth c X hr => v_12_must X hr hZ h)
theorem mf_12_must : MFV yX12_must cX12_must 2 none yX12_must.cls 1 := ⟨q_1501, q_1500, qs_54, q_14, by decide⟩
theorem K_12_must {own : String} {idx : Nat} {a1 : Int32} (X : CXq p s m args meth c cc nL own ad cy D A H0) (hL : LK own idx yX12_must) (hZ : ad 1000 = 189) {w : Mem} {wl : MemL} {Q : Mem → MemL → Prop} (h : wp_12_must a1 w wl Q) (hR : (RM 2).frames + 1 ≤ R.frames ∧ 8 + (2 + 11) + (RM 2).locals ≤ R.locals) (hce : ce ≤ R.cells ∧ sl ≤ R.slots) (hcat : (st1.map fun v => v.category).sum ≤ 8) (hd : decode cc pc = .ok (.invokevirtual idx, 3)) (kk : ∀ (u : Mem) (v : MemL), Q u v → V p l e R s m args below meth c nL ad cy D A H0 ce sl Qs wc u v (pc + 3) ls st1) : V p l e R s m args below meth c nL ad cy D A H0 ce sl Qs wc w wl pc ls (.int a1 :: .ref (ad 150) :: st1) := V_callVV_m X mf_12_must hL (rfl : vwCl[12]? = some (RX12, TX12, 72)) (by decide) (rfl : SK 150 = 12) (hzk hZ (by decide)).2 (c_12_must X.2.2.2.2.2.2.2.1 hZ h) (As := [.int a1]) rfl ⟨rfl, rfl⟩ hR hce st1 rfl hcat hd kk
set_option maxRecDepth 20000 in
theorem v_12_plain_b152 (X : CXq p s m args meth c cX12_plain 4 yX12_plain.cls ad cy D (AW ad) s.heap) (hr : meth.sig.returnType = none) (hZ : ad 1000 = 189) {Q : Mem → MemL → Prop} : ∀ (n : Nat) (l1 : Int32) (l3 : Int32) (w : Mem) (wl : MemL), wp_12_plain_b152 Q n l1 l3 w wl → V p l e (RM 0) s m args below meth c 4 ad cy D (AW ad) s.heap 0 0 (MQ below (va_Qv (fun (u : Mem × MemL) => Q u.1 u.2) (BM ad cy D wc) (AW ad)) args s 0 0 (AW ad)) wc w wl 152 [(0, .ref (ad 150)), (1, .int l1), (3, .int l3)] [] := by
  intro n
  induction n with
  | zero =>
    intro l1 l3 w wl h
    exact h.elim
  | succ n ih =>
    intro l1 l3 w wl h
    unfold wp_12_plain_b152 at h
    refine V_iload_n X (i := 3) 2 dX12_plain_152 rfl rfl ?_
    refine V_iconst X (v := (5 : Int32)) dX12_plain_153 (by decide) ?_
    obtain ⟨ht, hf⟩ := h
    refine V_icmp_ge X (tgt := 185) dX12_plain_154 (by decide) (fun c => ?_) (fun c => ?_)
    · have h := ht c
      exact V_vret_m X hr dX12_plain_185 h
    · have h := hf c
      refine V_aload_n X (i := 0) 0 dX12_plain_157 rfl rfl ?_
      refine G_12_70 X hZ dX12_plain_158 ?_
      refine V_iconst X (v := (5 : Int32)) dX12_plain_161 (by decide) ?_
      refine V_iload_n X (i := 1) 1 dX12_plain_162 rfl rfl ?_
      refine V_imul X dX12_plain_163 ?_
      refine V_iload_n X (i := 3) 2 dX12_plain_164 rfl rfl ?_
      refine V_iadd X dX12_plain_165 ?_
      refine V_iconst X (v := (0 : Int32)) dX12_plain_166 (by decide) ?_
      obtain ⟨g1, h⟩ := h
      obtain ⟨w2, ew2⟩ : ∃ y : Mem, y = st w 168 (ix (((5 : Int32) * l1) + l3)) (0 : Int32) := ⟨_, rfl⟩
      have h := h w2 ew2
      refine V_iast_m X (rfl : SLq 168 = 10) (hzk hZ (by decide)) (rfl : SK 168 = 14) g1 dX12_plain_167 ew2 ?_
      refine V_aload_n X (i := 0) 0 dX12_plain_168 rfl rfl ?_
      refine G_12_73 X hZ dX12_plain_169 ?_
      refine V_iconst X (v := (5 : Int32)) dX12_plain_172 (by decide) ?_
      refine V_iload_n X (i := 1) 1 dX12_plain_173 rfl rfl ?_
      refine V_imul X dX12_plain_174 ?_
      refine V_iload_n X (i := 3) 2 dX12_plain_175 rfl rfl ?_
      refine V_iadd X dX12_plain_176 ?_
      refine V_iconst X (v := (0 : Int32)) dX12_plain_177 (by decide) ?_
      obtain ⟨g3, h⟩ := h
      obtain ⟨w4, ew4⟩ : ∃ y : Mem, y = st w2 169 (ix (((5 : Int32) * l1) + l3)) (0 : Int32) := ⟨_, rfl⟩
      have h := h w4 ew4
      refine V_iast_m X (rfl : SLq 169 = 10) (hzk hZ (by decide)) (rfl : SK 169 = 14) g3 dX12_plain_178 ew4 ?_
      obtain ⟨x5, ex5⟩ : ∃ y : Int32, y = l3 + (1 : Int32) := ⟨_, rfl⟩
      have h := h x5 ex5
      refine V_iinc X 2 dX12_plain_179 rfl (by decide) (by rw [ex5]; rfl) (ls1 := [(3, .int x5), (0, .ref (ad 150)), (1, .int l1)]) rfl ?_
      refine V_goto X (tgt := 152) dX12_plain_182 (by decide) ?_
      refine V_sub X (ls1 := [(0, .ref (ad 150)), (1, .int l1), (3, .int x5)]) [1, 2, 0] rfl ?_
      exact ih _ _ _ _ h
set_option maxRecDepth 20000 in
theorem v_12_plain_b60 (X : CXq p s m args meth c cX12_plain 4 yX12_plain.cls ad cy D (AW ad) s.heap) (hr : meth.sig.returnType = none) (hZ : ad 1000 = 189) {Q : Mem → MemL → Prop} : ∀ (n : Nat) (l1 : Int32) (l2 : Int32) (l3 : Int32) (w : Mem) (wl : MemL), wp_12_plain_b60 Q n l1 l2 l3 w wl → V p l e (RM 0) s m args below meth c 4 ad cy D (AW ad) s.heap 0 0 (MQ below (va_Qv (fun (u : Mem × MemL) => Q u.1 u.2) (BM ad cy D wc) (AW ad)) args s 0 0 (AW ad)) wc w wl 60 [(0, .ref (ad 150)), (1, .int l1), (2, .int l2), (3, .int l3)] [] := by
  intro n
  induction n with
  | zero =>
    intro l1 l2 l3 w wl h
    exact h.elim
  | succ n ih =>
    intro l1 l2 l3 w wl h
    unfold wp_12_plain_b60 at h
    refine V_iload_n X (i := 3) 3 dX12_plain_60 rfl rfl ?_
    refine V_bipush X (v := (8 : Int32)) dX12_plain_61 (by decide) ?_
    obtain ⟨ht, hf⟩ := h
    refine V_icmp_ge X (tgt := 81) dX12_plain_63 (by decide) (fun c => ?_) (fun c => ?_)
    · have h := ht c
      refine V_aload_n X (i := 0) 0 dX12_plain_81 rfl rfl ?_
      refine G_12_43 X hZ dX12_plain_82 ?_
      refine V_iload_n X (i := 2) 2 dX12_plain_85 rfl rfl ?_
      refine V_bipush X (v := (10 : Int32)) dX12_plain_86 (by decide) ?_
      refine V_iadd X dX12_plain_88 ?_
      refine V_bipush X (v := (10 : Int32)) dX12_plain_89 (by decide) ?_
      obtain ⟨g1, h⟩ := h
      obtain ⟨w2, ew2⟩ : ∃ y : Mem, y = st w 159 (ix (l2 + (10 : Int32))) (10 : Int32) := ⟨_, rfl⟩
      have h := h w2 ew2
      refine V_iast_m X (rfl : SLq 159 = 40) (hzk hZ (by decide)) (rfl : SK 159 = 14) g1 dX12_plain_91 ew2 ?_
      refine V_aload_n X (i := 0) 0 dX12_plain_92 rfl rfl ?_
      refine G_12_43 X hZ dX12_plain_93 ?_
      refine V_iload_n X (i := 2) 2 dX12_plain_96 rfl rfl ?_
      refine V_bipush X (v := (11 : Int32)) dX12_plain_97 (by decide) ?_
      refine V_iadd X dX12_plain_99 ?_
      refine V_bipush X (v := (60 : Int32)) dX12_plain_100 (by decide) ?_
      obtain ⟨g3, h⟩ := h
      obtain ⟨w4, ew4⟩ : ∃ y : Mem, y = st w2 159 (ix (l2 + (11 : Int32))) (60 : Int32) := ⟨_, rfl⟩
      have h := h w4 ew4
      refine V_iast_m X (rfl : SLq 159 = 40) (hzk hZ (by decide)) (rfl : SK 159 = 14) g3 dX12_plain_102 ew4 ?_
      refine V_aload_n X (i := 0) 0 dX12_plain_103 rfl rfl ?_
      refine G_12_43 X hZ dX12_plain_104 ?_
      refine V_iload_n X (i := 2) 2 dX12_plain_107 rfl rfl ?_
      refine V_bipush X (v := (12 : Int32)) dX12_plain_108 (by decide) ?_
      refine V_iadd X dX12_plain_110 ?_
      refine V_bipush X (v := (20 : Int32)) dX12_plain_111 (by decide) ?_
      obtain ⟨g5, h⟩ := h
      obtain ⟨w6, ew6⟩ : ∃ y : Mem, y = st w4 159 (ix (l2 + (12 : Int32))) (20 : Int32) := ⟨_, rfl⟩
      have h := h w6 ew6
      refine V_iast_m X (rfl : SLq 159 = 40) (hzk hZ (by decide)) (rfl : SK 159 = 14) g5 dX12_plain_113 ew6 ?_
      refine V_aload_n X (i := 0) 0 dX12_plain_114 rfl rfl ?_
      refine G_12_43 X hZ dX12_plain_115 ?_
      refine V_iload_n X (i := 2) 2 dX12_plain_118 rfl rfl ?_
      refine V_bipush X (v := (13 : Int32)) dX12_plain_119 (by decide) ?_
      refine V_iadd X dX12_plain_121 ?_
      refine V_bipush X (v := (50 : Int32)) dX12_plain_122 (by decide) ?_
      obtain ⟨g7, h⟩ := h
      obtain ⟨w8, ew8⟩ : ∃ y : Mem, y = st w6 159 (ix (l2 + (13 : Int32))) (50 : Int32) := ⟨_, rfl⟩
      have h := h w8 ew8
      refine V_iast_m X (rfl : SLq 159 = 40) (hzk hZ (by decide)) (rfl : SK 159 = 14) g7 dX12_plain_124 ew8 ?_
      refine V_aload_n X (i := 0) 0 dX12_plain_125 rfl rfl ?_
      refine G_12_43 X hZ dX12_plain_126 ?_
      refine V_iload_n X (i := 2) 2 dX12_plain_129 rfl rfl ?_
      refine V_bipush X (v := (14 : Int32)) dX12_plain_130 (by decide) ?_
      refine V_iadd X dX12_plain_132 ?_
      refine V_bipush X (v := (8 : Int32)) dX12_plain_133 (by decide) ?_
      obtain ⟨g9, h⟩ := h
      obtain ⟨w10, ew10⟩ : ∃ y : Mem, y = st w8 159 (ix (l2 + (14 : Int32))) (8 : Int32) := ⟨_, rfl⟩
      have h := h w10 ew10
      refine V_iast_m X (rfl : SLq 159 = 40) (hzk hZ (by decide)) (rfl : SK 159 = 14) g9 dX12_plain_135 ew10 ?_
      refine V_aload_n X (i := 0) 0 dX12_plain_136 rfl rfl ?_
      refine G_12_46 X hZ dX12_plain_137 ?_
      refine V_iload_n X (i := 1) 1 dX12_plain_140 rfl rfl ?_
      refine V_iconst X (v := (0 : Int32)) dX12_plain_141 (by decide) ?_
      obtain ⟨g11, h⟩ := h
      obtain ⟨w12, ew12⟩ : ∃ y : Mem, y = st w10 160 (ix l1) (0 : Int32) := ⟨_, rfl⟩
      have h := h w12 ew12
      refine V_iast_m X (rfl : SLq 160 = 2) (hzk hZ (by decide)) (rfl : SK 160 = 14) g11 dX12_plain_142 ew12 ?_
      refine V_aload_n X (i := 0) 0 dX12_plain_143 rfl rfl ?_
      refine G_12_61 X hZ dX12_plain_144 ?_
      refine V_iload_n X (i := 1) 1 dX12_plain_147 rfl rfl ?_
      refine V_iconst X (v := (0 : Int32)) dX12_plain_148 (by decide) ?_
      obtain ⟨g13, h⟩ := h
      obtain ⟨w14, ew14⟩ : ∃ y : Mem, y = st w12 165 (ix l1) (0 : Int32) := ⟨_, rfl⟩
      have h := h w14 ew14
      refine V_iast_m X (rfl : SLq 165 = 2) (hzk hZ (by decide)) (rfl : SK 165 = 14) g13 dX12_plain_149 ew14 ?_
      refine V_iconst X (v := (0 : Int32)) dX12_plain_150 (by decide) ?_
      refine V_istore_n X dX12_plain_151 rfl (by decide) rfl (ls1 := [(3, .int (0 : Int32)), (0, .ref (ad 150)), (1, .int l1), (2, .int l2)]) rfl ?_
      refine V_sub X (ls1 := [(0, .ref (ad 150)), (1, .int l1), (3, .int (0 : Int32))]) [1, 2, 0] rfl ?_
      obtain ⟨nn, h⟩ := h
      exact v_12_plain_b152 X hr hZ nn _ _ _ _ h
    · have h := hf c
      refine V_aload_n X (i := 0) 0 dX12_plain_66 rfl rfl ?_
      refine G_12_43 X hZ dX12_plain_67 ?_
      refine V_iload_n X (i := 2) 2 dX12_plain_70 rfl rfl ?_
      refine V_iload_n X (i := 3) 3 dX12_plain_71 rfl rfl ?_
      refine V_iadd X dX12_plain_72 ?_
      refine V_iconst X (v := (1 : Int32)) dX12_plain_73 (by decide) ?_
      obtain ⟨g15, h⟩ := h
      obtain ⟨w16, ew16⟩ : ∃ y : Mem, y = st w 159 (ix (l2 + l3)) (1 : Int32) := ⟨_, rfl⟩
      have h := h w16 ew16
      refine V_iast_m X (rfl : SLq 159 = 40) (hzk hZ (by decide)) (rfl : SK 159 = 14) g15 dX12_plain_74 ew16 ?_
      obtain ⟨x17, ex17⟩ : ∃ y : Int32, y = l3 + (1 : Int32) := ⟨_, rfl⟩
      have h := h x17 ex17
      refine V_iinc X 3 dX12_plain_75 rfl (by decide) (by rw [ex17]; rfl) (ls1 := [(3, .int x17), (0, .ref (ad 150)), (1, .int l1), (2, .int l2)]) rfl ?_
      refine V_goto X (tgt := 60) dX12_plain_78 (by decide) ?_
      refine V_sub X (ls1 := [(0, .ref (ad 150)), (1, .int l1), (2, .int l2), (3, .int x17)]) [1, 2, 3, 0] rfl ?_
      exact ih _ _ _ _ _ h
set_option maxRecDepth 20000 in
theorem v_12_plain_b7 (X : CXq p s m args meth c cX12_plain 4 yX12_plain.cls ad cy D (AW ad) s.heap) (hr : meth.sig.returnType = none) (hZ : ad 1000 = 189) {Q : Mem → MemL → Prop} : ∀ (n : Nat) (l1 : Int32) (l2 : Int32) (l3 : Int32) (w : Mem) (wl : MemL), wp_12_plain_b7 Q n l1 l2 l3 w wl → V p l e (RM 0) s m args below meth c 4 ad cy D (AW ad) s.heap 0 0 (MQ below (va_Qv (fun (u : Mem × MemL) => Q u.1 u.2) (BM ad cy D wc) (AW ad)) args s 0 0 (AW ad)) wc w wl 7 [(0, .ref (ad 150)), (1, .int l1), (2, .int l2), (3, .int l3)] [] := by
  intro n
  induction n with
  | zero =>
    intro l1 l2 l3 w wl h
    exact h.elim
  | succ n ih =>
    intro l1 l2 l3 w wl h
    unfold wp_12_plain_b7 at h
    refine V_iload_n X (i := 3) 3 dX12_plain_7 rfl rfl ?_
    refine V_bipush X (v := (20 : Int32)) dX12_plain_8 (by decide) ?_
    obtain ⟨ht, hf⟩ := h
    refine V_icmp_ge X (tgt := 28) dX12_plain_10 (by decide) (fun c => ?_) (fun c => ?_)
    · have h := ht c
      refine V_aload_n X (i := 0) 0 dX12_plain_28 rfl rfl ?_
      refine G_12_43 X hZ dX12_plain_29 ?_
      refine V_iload_n X (i := 2) 2 dX12_plain_32 rfl rfl ?_
      refine V_sipush X (v := (900 : Int32)) dX12_plain_33 (by decide) ?_
      obtain ⟨g1, h⟩ := h
      obtain ⟨w2, ew2⟩ : ∃ y : Mem, y = st w 159 (ix l2) (900 : Int32) := ⟨_, rfl⟩
      have h := h w2 ew2
      refine V_iast_m X (rfl : SLq 159 = 40) (hzk hZ (by decide)) (rfl : SK 159 = 14) g1 dX12_plain_36 ew2 ?_
      refine V_aload_n X (i := 0) 0 dX12_plain_37 rfl rfl ?_
      refine G_12_43 X hZ dX12_plain_38 ?_
      refine V_iload_n X (i := 2) 2 dX12_plain_41 rfl rfl ?_
      refine V_iconst X (v := (1 : Int32)) dX12_plain_42 (by decide) ?_
      refine V_iadd X dX12_plain_43 ?_
      refine V_sipush X (v := (1000 : Int32)) dX12_plain_44 (by decide) ?_
      obtain ⟨g3, h⟩ := h
      obtain ⟨w4, ew4⟩ : ∃ y : Mem, y = st w2 159 (ix (l2 + (1 : Int32))) (1000 : Int32) := ⟨_, rfl⟩
      have h := h w4 ew4
      refine V_iast_m X (rfl : SLq 159 = 40) (hzk hZ (by decide)) (rfl : SK 159 = 14) g3 dX12_plain_47 ew4 ?_
      refine V_aload_n X (i := 0) 0 dX12_plain_48 rfl rfl ?_
      refine G_12_43 X hZ dX12_plain_49 ?_
      refine V_iload_n X (i := 2) 2 dX12_plain_52 rfl rfl ?_
      refine V_iconst X (v := (2 : Int32)) dX12_plain_53 (by decide) ?_
      refine V_iadd X dX12_plain_54 ?_
      refine V_bipush X (v := (20 : Int32)) dX12_plain_55 (by decide) ?_
      obtain ⟨g5, h⟩ := h
      obtain ⟨w6, ew6⟩ : ∃ y : Mem, y = st w4 159 (ix (l2 + (2 : Int32))) (20 : Int32) := ⟨_, rfl⟩
      have h := h w6 ew6
      refine V_iast_m X (rfl : SLq 159 = 40) (hzk hZ (by decide)) (rfl : SK 159 = 14) g5 dX12_plain_57 ew6 ?_
      refine V_iconst X (v := (3 : Int32)) dX12_plain_58 (by decide) ?_
      refine V_istore_n X dX12_plain_59 rfl (by decide) rfl (ls1 := [(3, .int (3 : Int32)), (0, .ref (ad 150)), (1, .int l1), (2, .int l2)]) rfl ?_
      refine V_sub X (ls1 := [(0, .ref (ad 150)), (1, .int l1), (2, .int l2), (3, .int (3 : Int32))]) [1, 2, 3, 0] rfl ?_
      obtain ⟨nn, h⟩ := h
      exact v_12_plain_b60 X hr hZ nn _ _ _ _ _ h
    · have h := hf c
      refine V_aload_n X (i := 0) 0 dX12_plain_13 rfl rfl ?_
      refine G_12_43 X hZ dX12_plain_14 ?_
      refine V_iload_n X (i := 2) 2 dX12_plain_17 rfl rfl ?_
      refine V_iload_n X (i := 3) 3 dX12_plain_18 rfl rfl ?_
      refine V_iadd X dX12_plain_19 ?_
      refine V_iconst X (v := (0 : Int32)) dX12_plain_20 (by decide) ?_
      obtain ⟨g7, h⟩ := h
      obtain ⟨w8, ew8⟩ : ∃ y : Mem, y = st w 159 (ix (l2 + l3)) (0 : Int32) := ⟨_, rfl⟩
      have h := h w8 ew8
      refine V_iast_m X (rfl : SLq 159 = 40) (hzk hZ (by decide)) (rfl : SK 159 = 14) g7 dX12_plain_21 ew8 ?_
      obtain ⟨x9, ex9⟩ : ∃ y : Int32, y = l3 + (1 : Int32) := ⟨_, rfl⟩
      have h := h x9 ex9
      refine V_iinc X 3 dX12_plain_22 rfl (by decide) (by rw [ex9]; rfl) (ls1 := [(3, .int x9), (0, .ref (ad 150)), (1, .int l1), (2, .int l2)]) rfl ?_
      refine V_goto X (tgt := 7) dX12_plain_25 (by decide) ?_
      refine V_sub X (ls1 := [(0, .ref (ad 150)), (1, .int l1), (2, .int l2), (3, .int x9)]) [1, 2, 3, 0] rfl ?_
      exact ih _ _ _ _ _ h
set_option maxRecDepth 20000 in
theorem v_12_plain {a1 : Int32} (X : CXq p s m args meth c cX12_plain 4 yX12_plain.cls ad cy D (AW ad) s.heap) (hr : meth.sig.returnType = none) (hZ : ad 1000 = 189) {w : Mem} {wl : MemL} {Q : Mem → MemL → Prop} (h : wp_12_plain a1 w wl Q) : V p l e (RM 0) s m args below meth c 4 ad cy D (AW ad) s.heap 0 0 (MQ below (va_Qv (fun (u : Mem × MemL) => Q u.1 u.2) (BM ad cy D wc) (AW ad)) args s 0 0 (AW ad)) wc w wl 0 [(0, .ref (ad 150)), (1, .int a1)] [] := by
  unfold wp_12_plain at h
  refine V_bipush X (v := (20 : Int32)) dX12_plain_0 (by decide) ?_
  refine V_iload_n X (i := 1) 1 dX12_plain_2 rfl rfl ?_
  refine V_imul X dX12_plain_3 ?_
  obtain ⟨x1, ex1⟩ : ∃ y : Int32, y = ((20 : Int32) * a1) := ⟨_, rfl⟩
  have h := h x1 ex1
  refine V_istore_n X dX12_plain_4 rfl (by decide) ex1 (ls1 := [(2, .int x1), (0, .ref (ad 150)), (1, .int a1)]) rfl ?_
  refine V_iconst X (v := (0 : Int32)) dX12_plain_5 (by decide) ?_
  refine V_istore_n X dX12_plain_6 rfl (by decide) rfl (ls1 := [(3, .int (0 : Int32)), (2, .int x1), (0, .ref (ad 150)), (1, .int a1)]) rfl ?_
  refine V_sub X (ls1 := [(0, .ref (ad 150)), (1, .int a1), (2, .int x1), (3, .int (0 : Int32))]) [2, 3, 1, 0] rfl ?_
  obtain ⟨nn, h⟩ := h
  exact v_12_plain_b7 X hr hZ nn _ _ _ _ _ h
theorem c_12_plain {a1 : Int32} (hinj : INJ ad) (hZ : ad 1000 = 189) {w : Mem} {wl : MemL} {Q : Mem → MemL → Prop} (h : wp_12_plain a1 w wl Q) : Met l yX12_plain (TBq yX12_plain cX12_plain 4 none) (RM 0) (va_Pc [.ref (ad 150), .int a1] (PB ad cy D (cmb wc w) wl)) (va_Qv (fun (u : Mem × MemL) => Q u.1 u.2) (BM ad cy D wc) (AW ad)) 0 0 (AW ad) := M_enter (by decide) (Nat.le_of_ble_eq_true rfl) hinj (fun p e s m args below meth c X hr => v_12_plain X hr hZ h)
theorem mf_12_plain : MFV yX12_plain cX12_plain 4 none yX12_plain.cls 1 := ⟨q_1191, q_1190, qs_37, q_14, by decide⟩
theorem K_12_plain {own : String} {idx : Nat} {a1 : Int32} (X : CXq p s m args meth c cc nL own ad cy D A H0) (hL : LK own idx yX12_plain) (hZ : ad 1000 = 189) {w : Mem} {wl : MemL} {Q : Mem → MemL → Prop} (h : wp_12_plain a1 w wl Q) (hR : (RM 0).frames + 1 ≤ R.frames ∧ 8 + (4 + 11) + (RM 0).locals ≤ R.locals) (hce : ce ≤ R.cells ∧ sl ≤ R.slots) (hcat : (st1.map fun v => v.category).sum ≤ 8) (hd : decode cc pc = .ok (.invokevirtual idx, 3)) (kk : ∀ (u : Mem) (v : MemL), Q u v → V p l e R s m args below meth c nL ad cy D A H0 ce sl Qs wc u v (pc + 3) ls st1) : V p l e R s m args below meth c nL ad cy D A H0 ce sl Qs wc w wl pc ls (.int a1 :: .ref (ad 150) :: st1) := V_callVV_m X mf_12_plain hL (rfl : vwCl[12]? = some (RX12, TX12, 72)) (by decide) (rfl : SK 150 = 12) (hzk hZ (by decide)).2 (c_12_plain X.2.2.2.2.2.2.2.1 hZ h) (As := [.int a1]) rfl ⟨rfl, rfl⟩ hR hce st1 rfl hcat hd kk
set_option maxRecDepth 20000 in
theorem v_12_bounded_b51 (X : CXq p s m args meth c cX12_bounded 4 yX12_bounded.cls ad cy D (AW ad) s.heap) (hr : meth.sig.returnType = (some .int)) (hZ : ad 1000 = 189) {Q : Int32 → Mem → MemL → Prop} : ∀ (l3 : Int32) (w : Mem) (wl : MemL), wp_12_bounded_b51 Q l3 w wl → V p l e (RM 2) s m args below meth c 4 ad cy D (AW ad) s.heap 0 0 (MQ below (va_Qi (fun r (u : Mem × MemL) => Q r u.1 u.2) (BM ad cy D wc) (AW ad)) args s 0 0 (AW ad)) wc w wl 51 [(0, .ref (ad 150)), (3, .int l3)] [] := by
  intro l3 w wl h
  unfold wp_12_bounded_b51 at h
  refine V_aload_n X (i := 0) 0 dX12_bounded_51 rfl rfl ?_
  refine K_12_goesOn X (Or.inl q_1478) hZ h ⟨Nat.le_of_ble_eq_true rfl, Nat.le_of_ble_eq_true rfl⟩ ⟨Nat.zero_le _, Nat.zero_le _⟩ (st1 := []) (Nat.le_of_ble_eq_true rfl) dX12_bounded_52 (fun w1 v2 h => ?_)
  refine V_iload_n X (i := 3) 1 dX12_bounded_55 rfl rfl ?_
  exact V_iret_m X hr dX12_bounded_56 h
set_option maxRecDepth 20000 in
theorem v_12_bounded_b42 (X : CXq p s m args meth c cX12_bounded 4 yX12_bounded.cls ad cy D (AW ad) s.heap) (hr : meth.sig.returnType = (some .int)) (hZ : ad 1000 = 189) {Q : Int32 → Mem → MemL → Prop} : ∀ (l3 : Int32) (w : Mem) (wl : MemL), wp_12_bounded_b42 Q l3 w wl → V p l e (RM 2) s m args below meth c 4 ad cy D (AW ad) s.heap 0 0 (MQ below (va_Qi (fun r (u : Mem × MemL) => Q r u.1 u.2) (BM ad cy D wc) (AW ad)) args s 0 0 (AW ad)) wc w wl 42 [(0, .ref (ad 150)), (3, .int l3)] [] := by
  intro l3 w wl h
  unfold wp_12_bounded_b42 at h
  refine V_aload_n X (i := 0) 0 dX12_bounded_42 rfl rfl ?_
  refine V_iconst X (v := (5 : Int32)) dX12_bounded_43 (by decide) ?_
  refine V_aload_n X (i := 0) 0 dX12_bounded_44 rfl rfl ?_
  refine G_12_191 X hZ dX12_bounded_45 ?_
  refine K_12_wrong X (Or.inl q_1494) hZ h ⟨Nat.le_of_ble_eq_true rfl, Nat.le_of_ble_eq_true rfl⟩ ⟨Nat.zero_le _, Nat.zero_le _⟩ (st1 := []) (Nat.le_of_ble_eq_true rfl) dX12_bounded_48 (fun w1 v2 h => ?_)
  refine V_sub X (ls1 := [(0, .ref (ad 150)), (3, .int l3)]) [0, 1] rfl ?_
  exact v_12_bounded_b51 X hr hZ _ _ _ h
set_option maxRecDepth 20000 in
theorem v_12_bounded_b15 (X : CXq p s m args meth c cX12_bounded 4 yX12_bounded.cls ad cy D (AW ad) s.heap) (hr : meth.sig.returnType = (some .int)) (hZ : ad 1000 = 189) {Q : Int32 → Mem → MemL → Prop} : ∀ (l1 : Int32) (w : Mem) (wl : MemL), wp_12_bounded_b15 Q l1 w wl → V p l e (RM 2) s m args below meth c 4 ad cy D (AW ad) s.heap 0 0 (MQ below (va_Qi (fun r (u : Mem × MemL) => Q r u.1 u.2) (BM ad cy D wc) (AW ad)) args s 0 0 (AW ad)) wc w wl 15 [(0, .ref (ad 150)), (1, .int l1)] [] := by
  intro l1 w wl h
  unfold wp_12_bounded_b15 at h
  refine V_aload_n X (i := 0) 0 dX12_bounded_15 rfl rfl ?_
  refine V_iconst X (v := (1 : Int32)) dX12_bounded_16 (by decide) ?_
  refine K_12_fail X (Or.inl q_1482) hZ h ⟨Nat.le_of_ble_eq_true rfl, Nat.le_of_ble_eq_true rfl⟩ ⟨Nat.zero_le _, Nat.zero_le _⟩ (st1 := []) (Nat.le_of_ble_eq_true rfl) dX12_bounded_17 (fun w1 v2 h => ?_)
  refine V_iload_n X (i := 1) 1 dX12_bounded_20 rfl rfl ?_
  exact V_iret_m X hr dX12_bounded_21 h
set_option maxRecDepth 20000 in
theorem v_12_bounded {a1 : Int32} {a2 : Int32} (X : CXq p s m args meth c cX12_bounded 4 yX12_bounded.cls ad cy D (AW ad) s.heap) (hr : meth.sig.returnType = (some .int)) (hZ : ad 1000 = 189) {w : Mem} {wl : MemL} {Q : Int32 → Mem → MemL → Prop} (h : wp_12_bounded a1 a2 w wl Q) : V p l e (RM 2) s m args below meth c 4 ad cy D (AW ad) s.heap 0 0 (MQ below (va_Qi (fun r (u : Mem × MemL) => Q r u.1 u.2) (BM ad cy D wc) (AW ad)) args s 0 0 (AW ad)) wc w wl 0 [(0, .ref (ad 150)), (1, .int a1), (2, .int a2)] [] := by
  unfold wp_12_bounded at h
  refine V_aload_n X (i := 0) 0 dX12_bounded_0 rfl rfl ?_
  refine G_12_188 X hZ dX12_bounded_1 ?_
  obtain ⟨ht, hf⟩ := h
  refine V_if_gt X (tgt := 15) dX12_bounded_4 (by decide) (fun c => ?_) (fun c => ?_)
  · have h := ht c
    refine V_sub X (ls1 := [(0, .ref (ad 150)), (1, .int a1)]) [0, 1] rfl ?_
    exact v_12_bounded_b15 X hr hZ _ _ _ h
  · have h := hf c
    refine V_aload_n X (i := 0) 0 dX12_bounded_7 rfl rfl ?_
    refine V_iconst X (v := (2 : Int32)) dX12_bounded_8 (by decide) ?_
    refine K_12_is X (Or.inl q_1470) hZ h ⟨Nat.le_of_ble_eq_true rfl, Nat.le_of_ble_eq_true rfl⟩ ⟨Nat.zero_le _, Nat.zero_le _⟩ (st1 := []) (Nat.le_of_ble_eq_true rfl) dX12_bounded_9 (fun r2 w1 v3 h => ?_)
    obtain ⟨ht, hf⟩ := h
    refine V_if_ne X (tgt := 22) dX12_bounded_12 (by decide) (fun c => ?_) (fun c => ?_)
    · have h := ht c
      refine V_aload_n X (i := 0) 0 dX12_bounded_22 rfl rfl ?_
      refine G_12_27 X hZ dX12_bounded_23 ?_
      refine V_aload_n X (i := 0) 0 dX12_bounded_26 rfl rfl ?_
      refine G_12_191 X hZ dX12_bounded_27 ?_
      obtain ⟨g4, h⟩ := h
      refine V_iald_m X (rfl : SLq 155 = 403) (hzk hZ (by decide)) (rfl : SK 155 = 14) g4 dX12_bounded_30 ?_
      obtain ⟨x5, ex5⟩ : ∃ y : Int32, y = (w1 155 (ix (w1 150 11))) := ⟨_, rfl⟩
      have h := h x5 ex5
      refine V_istore_n X dX12_bounded_31 rfl (by decide) ex5 (ls1 := [(3, .int x5), (0, .ref (ad 150)), (1, .int a1), (2, .int a2)]) rfl ?_
      refine V_iload_n X (i := 3) 0 dX12_bounded_32 rfl rfl ?_
      refine V_iload_n X (i := 1) 2 dX12_bounded_33 rfl rfl ?_
      obtain ⟨ht, hf⟩ := h
      refine V_icmp_lt X (tgt := 42) dX12_bounded_34 (by decide) (fun c => ?_) (fun c => ?_)
      · have h := ht c
        refine V_sub X (ls1 := [(0, .ref (ad 150)), (3, .int x5)]) [1, 0] rfl ?_
        exact v_12_bounded_b42 X hr hZ _ _ _ h
      · have h := hf c
        refine V_iload_n X (i := 3) 0 dX12_bounded_37 rfl rfl ?_
        refine V_iload_n X (i := 2) 3 dX12_bounded_38 rfl rfl ?_
        obtain ⟨ht, hf⟩ := h
        refine V_icmp_le X (tgt := 51) dX12_bounded_39 (by decide) (fun c => ?_) (fun c => ?_)
        · have h := ht c
          refine V_sub X (ls1 := [(0, .ref (ad 150)), (3, .int x5)]) [1, 0] rfl ?_
          exact v_12_bounded_b51 X hr hZ _ _ _ h
        · have h := hf c
          refine V_sub X (ls1 := [(0, .ref (ad 150)), (3, .int x5)]) [1, 0] rfl ?_
          exact v_12_bounded_b42 X hr hZ _ _ _ h
    · have h := hf c
      refine V_sub X (ls1 := [(0, .ref (ad 150)), (1, .int a1)]) [0, 1] rfl ?_
      exact v_12_bounded_b15 X hr hZ _ _ _ h
theorem c_12_bounded {a1 : Int32} {a2 : Int32} (hinj : INJ ad) (hZ : ad 1000 = 189) {w : Mem} {wl : MemL} {Q : Int32 → Mem → MemL → Prop} (h : wp_12_bounded a1 a2 w wl Q) : Met l yX12_bounded (TBq yX12_bounded cX12_bounded 4 (some .int)) (RM 2) (va_Pc [.ref (ad 150), .int a1, .int a2] (PB ad cy D (cmb wc w) wl)) (va_Qi (fun r (u : Mem × MemL) => Q r u.1 u.2) (BM ad cy D wc) (AW ad)) 0 0 (AW ad) := M_enter (by decide) (Nat.le_of_ble_eq_true rfl) hinj (fun p e s m args below meth c X hr => v_12_bounded X hr hZ h)
theorem mf_12_bounded : MFV yX12_bounded cX12_bounded 4 (some .int) yX12_bounded.cls 2 := ⟨q_1493, q_1492, qs_52, q_14, by decide⟩
theorem K_12_bounded {own : String} {idx : Nat} {a1 : Int32} {a2 : Int32} (X : CXq p s m args meth c cc nL own ad cy D A H0) (hL : LK own idx yX12_bounded) (hZ : ad 1000 = 189) {w : Mem} {wl : MemL} {Q : Int32 → Mem → MemL → Prop} (h : wp_12_bounded a1 a2 w wl Q) (hR : (RM 2).frames + 1 ≤ R.frames ∧ 8 + (4 + 11) + (RM 2).locals ≤ R.locals) (hce : ce ≤ R.cells ∧ sl ≤ R.slots) (hcat : (st1.map fun v => v.category).sum ≤ 8) (hd : decode cc pc = .ok (.invokevirtual idx, 3)) (kk : ∀ (r : Int32) (u : Mem) (v : MemL), Q r u v → V p l e R s m args below meth c nL ad cy D A H0 ce sl Qs wc u v (pc + 3) ls (.int r :: st1)) : V p l e R s m args below meth c nL ad cy D A H0 ce sl Qs wc w wl pc ls (.int a2 :: .int a1 :: .ref (ad 150) :: st1) := V_callVI_m X mf_12_bounded hL (rfl : vwCl[12]? = some (RX12, TX12, 72)) (by decide) (rfl : SK 150 = 12) (hzk hZ (by decide)).2 (c_12_bounded X.2.2.2.2.2.2.2.1 hZ h) (As := [.int a1, .int a2]) rfl ⟨rfl, rfl⟩ hR hce st1 rfl hcat hd kk
set_option maxRecDepth 20000 in
theorem v_12_tellNumber {a1 : Int32} {a2 : Int32} {a3 : Int32} (X : CXq p s m args meth c cX12_tellNumber 5 yX12_tellNumber.cls ad cy D (AW ad) s.heap) (hr : meth.sig.returnType = none) (hZ : ad 1000 = 189) {w : Mem} {wl : MemL} {Q : Mem → MemL → Prop} (h : wp_12_tellNumber a1 a2 a3 w wl Q) : V p l e (RM 3) s m args below meth c 5 ad cy D (AW ad) s.heap 0 0 (MQ below (va_Qv (fun (u : Mem × MemL) => Q u.1 u.2) (BM ad cy D wc) (AW ad)) args s 0 0 (AW ad)) wc w wl 0 [(0, .ref (ad 150)), (1, .int a1), (2, .int a2), (3, .int a3)] [] := by
  unfold wp_12_tellNumber at h
  refine V_aload_n X (i := 0) 0 dX12_tellNumber_0 rfl rfl ?_
  refine V_iload_n X (i := 2) 2 dX12_tellNumber_1 rfl rfl ?_
  refine V_iload_n X (i := 3) 3 dX12_tellNumber_2 rfl rfl ?_
  refine K_12_bounded X (Or.inl q_1490) hZ h ⟨Nat.le_of_ble_eq_true rfl, Nat.le_of_ble_eq_true rfl⟩ ⟨Nat.zero_le _, Nat.zero_le _⟩ (st1 := []) (Nat.le_of_ble_eq_true rfl) dX12_tellNumber_3 (fun r2 w1 v3 h => ?_)
  refine V_istore X dX12_tellNumber_6 (by decide) rfl (ls1 := [(4, .int r2), (0, .ref (ad 150)), (1, .int a1), (2, .int a2), (3, .int a3)]) rfl ?_
  refine V_aload_n X (i := 0) 1 dX12_tellNumber_8 rfl rfl ?_
  refine G_12_188 X hZ dX12_tellNumber_9 ?_
  obtain ⟨ht, hf⟩ := h
  refine V_if_ne X (tgt := 31) dX12_tellNumber_12 (by decide) (fun c => ?_) (fun c => ?_)
  · have h := ht c
    exact V_vret_m X hr dX12_tellNumber_31 h
  · have h := hf c
    refine V_aload_n X (i := 0) 1 dX12_tellNumber_15 rfl rfl ?_
    refine G_12_43 X hZ dX12_tellNumber_16 ?_
    refine V_bipush X (v := (20 : Int32)) dX12_tellNumber_19 (by decide) ?_
    refine V_aload_n X (i := 0) 1 dX12_tellNumber_21 rfl rfl ?_
    refine G_12_221 X hZ dX12_tellNumber_22 ?_
    refine V_imul X dX12_tellNumber_25 ?_
    refine V_iload_n X (i := 1) 2 dX12_tellNumber_26 rfl rfl ?_
    refine V_iadd X dX12_tellNumber_27 ?_
    refine V_iload X (i := 4) 0 dX12_tellNumber_28 rfl ?_
    obtain ⟨g4, h⟩ := h
    obtain ⟨w5, ew5⟩ : ∃ y : Mem, y = st w1 159 (ix (((20 : Int32) * (w1 150 19)) + a1)) r2 := ⟨_, rfl⟩
    have h := h w5 ew5
    refine V_iast_m X (rfl : SLq 159 = 40) (hzk hZ (by decide)) (rfl : SK 159 = 14) g4 dX12_tellNumber_30 ew5 ?_
    exact V_vret_m X hr dX12_tellNumber_31 h
theorem c_12_tellNumber {a1 : Int32} {a2 : Int32} {a3 : Int32} (hinj : INJ ad) (hZ : ad 1000 = 189) {w : Mem} {wl : MemL} {Q : Mem → MemL → Prop} (h : wp_12_tellNumber a1 a2 a3 w wl Q) : Met l yX12_tellNumber (TBq yX12_tellNumber cX12_tellNumber 5 none) (RM 3) (va_Pc [.ref (ad 150), .int a1, .int a2, .int a3] (PB ad cy D (cmb wc w) wl)) (va_Qv (fun (u : Mem × MemL) => Q u.1 u.2) (BM ad cy D wc) (AW ad)) 0 0 (AW ad) := M_enter (by decide) (Nat.le_of_ble_eq_true rfl) hinj (fun p e s m args below meth c X hr => v_12_tellNumber X hr hZ h)
theorem mf_12_tellNumber : MFV yX12_tellNumber cX12_tellNumber 5 none yX12_tellNumber.cls 3 := ⟨q_1489, q_1488, qs_51, q_14, by decide⟩
theorem K_12_tellNumber {own : String} {idx : Nat} {a1 : Int32} {a2 : Int32} {a3 : Int32} (X : CXq p s m args meth c cc nL own ad cy D A H0) (hL : LK own idx yX12_tellNumber) (hZ : ad 1000 = 189) {w : Mem} {wl : MemL} {Q : Mem → MemL → Prop} (h : wp_12_tellNumber a1 a2 a3 w wl Q) (hR : (RM 3).frames + 1 ≤ R.frames ∧ 8 + (5 + 11) + (RM 3).locals ≤ R.locals) (hce : ce ≤ R.cells ∧ sl ≤ R.slots) (hcat : (st1.map fun v => v.category).sum ≤ 8) (hd : decode cc pc = .ok (.invokevirtual idx, 3)) (kk : ∀ (u : Mem) (v : MemL), Q u v → V p l e R s m args below meth c nL ad cy D A H0 ce sl Qs wc u v (pc + 3) ls st1) : V p l e R s m args below meth c nL ad cy D A H0 ce sl Qs wc w wl pc ls (.int a3 :: .int a2 :: .int a1 :: .ref (ad 150) :: st1) := V_callVV_m X mf_12_tellNumber hL (rfl : vwCl[12]? = some (RX12, TX12, 72)) (by decide) (rfl : SK 150 = 12) (hzk hZ (by decide)).2 (c_12_tellNumber X.2.2.2.2.2.2.2.1 hZ h) (As := [.int a1, .int a2, .int a3]) rfl ⟨rfl, rfl⟩ hR hce st1 rfl hcat hd kk
set_option maxRecDepth 20000 in
theorem v_12_named_b53 (X : CXq p s m args meth c cX12_named 3 yX12_named.cls ad cy D (AW ad) s.heap) (hr : meth.sig.returnType = (some .int)) (hZ : ad 1000 = 189) {Q : Int32 → Mem → MemL → Prop} {L16 : Int32 → Int32 → Mem → MemL → Prop} (HL16 : ∀ (l1 : Int32) (l2 : Int32) (w : Mem) (wl : MemL), L16 l1 l2 w wl → V p l e (RM 3) s m args below meth c 3 ad cy D (AW ad) s.heap 0 0 (MQ below (va_Qi (fun r (u : Mem × MemL) => Q r u.1 u.2) (BM ad cy D wc) (AW ad)) args s 0 0 (AW ad)) wc w wl 16 [(0, .ref (ad 150)), (1, .int l1), (2, .int l2)] []) : ∀ (l1 : Int32) (l2 : Int32) (w : Mem) (wl : MemL), wp_12_named_b53 Q L16 l1 l2 w wl → V p l e (RM 3) s m args below meth c 3 ad cy D (AW ad) s.heap 0 0 (MQ below (va_Qi (fun r (u : Mem × MemL) => Q r u.1 u.2) (BM ad cy D wc) (AW ad)) args s 0 0 (AW ad)) wc w wl 53 [(0, .ref (ad 150)), (1, .int l1), (2, .int l2)] [] := by
  intro l1 l2 w wl h
  unfold wp_12_named_b53 at h
  obtain ⟨x1, ex1⟩ : ∃ y : Int32, y = l2 + (1 : Int32) := ⟨_, rfl⟩
  have h := h x1 ex1
  refine V_iinc X 2 dX12_named_53 rfl (by decide) (by rw [ex1]; rfl) (ls1 := [(2, .int x1), (0, .ref (ad 150)), (1, .int l1)]) rfl ?_
  refine V_goto X (tgt := 16) dX12_named_56 (by decide) ?_
  refine V_sub X (ls1 := [(0, .ref (ad 150)), (1, .int l1), (2, .int x1)]) [1, 2, 0] rfl ?_
  exact HL16 _ _ _ _ h
set_option maxRecDepth 20000 in
theorem v_12_named_b16 (X : CXq p s m args meth c cX12_named 3 yX12_named.cls ad cy D (AW ad) s.heap) (hr : meth.sig.returnType = (some .int)) (hZ : ad 1000 = 189) {Q : Int32 → Mem → MemL → Prop} : ∀ (n : Nat) (l1 : Int32) (l2 : Int32) (w : Mem) (wl : MemL), wp_12_named_b16 Q n l1 l2 w wl → V p l e (RM 3) s m args below meth c 3 ad cy D (AW ad) s.heap 0 0 (MQ below (va_Qi (fun r (u : Mem × MemL) => Q r u.1 u.2) (BM ad cy D wc) (AW ad)) args s 0 0 (AW ad)) wc w wl 16 [(0, .ref (ad 150)), (1, .int l1), (2, .int l2)] [] := by
  intro n
  induction n with
  | zero =>
    intro l1 l2 w wl h
    exact h.elim
  | succ n ih =>
    intro l1 l2 w wl h
    unfold wp_12_named_b16 at h
    refine V_iload_n X (i := 2) 2 dX12_named_16 rfl rfl ?_
    refine V_aload_n X (i := 0) 0 dX12_named_17 rfl rfl ?_
    refine G_12_224 X hZ dX12_named_18 ?_
    obtain ⟨ht, hf⟩ := h
    refine V_icmp_ge X (tgt := 59) dX12_named_21 (by decide) (fun c => ?_) (fun c => ?_)
    · have h := ht c
      refine V_iload_n X (i := 1) 1 dX12_named_59 rfl rfl ?_
      exact V_iret_m X hr dX12_named_60 h
    · have h := hf c
      refine V_aload_n X (i := 0) 0 dX12_named_24 rfl rfl ?_
      refine G_12_188 X hZ dX12_named_25 ?_
      obtain ⟨ht, hf⟩ := h
      refine V_if_ne X (tgt := 59) dX12_named_28 (by decide) (fun c => ?_) (fun c => ?_)
      · have h := ht c
        refine V_iload_n X (i := 1) 1 dX12_named_59 rfl rfl ?_
        exact V_iret_m X hr dX12_named_60 h
      · have h := hf c
        refine V_aload_n X (i := 0) 0 dX12_named_31 rfl rfl ?_
        refine G_12_40 X hZ dX12_named_32 ?_
        refine V_iload_n X (i := 2) 2 dX12_named_35 rfl rfl ?_
        obtain ⟨g1, h⟩ := h
        refine V_lald X (rfl : SLq 158 = 15) (hzk hZ (by decide)) (rfl : SK 158 = 15) g1 dX12_named_36 ?_
        refine V_aload_n X (i := 0) 0 dX12_named_37 rfl rfl ?_
        refine G_12_30 X hZ dX12_named_38 ?_
        refine V_iload_n X (i := 1) 1 dX12_named_41 rfl rfl ?_
        obtain ⟨g2, h⟩ := h
        refine V_lald X (rfl : SLq 156 = 403) (hzk hZ (by decide)) (rfl : SK 156 = 15) g2 dX12_named_42 ?_
        refine V_lcmp X dX12_named_43 ?_
        obtain ⟨ht, hf⟩ := h
        refine V_if_ne X (tgt := 53) dX12_named_44 (by decide) (fun c => ?_) (fun c => ?_)
        · have h := ht c
          refine V_sub X (ls1 := [(0, .ref (ad 150)), (1, .int l1), (2, .int l2)]) [0, 1, 2] rfl ?_
          exact v_12_named_b53 X hr hZ ih _ _ _ _ h
        · have h := hf c
          refine V_aload_n X (i := 0) 0 dX12_named_47 rfl rfl ?_
          refine V_iconst X (v := (3 : Int32)) dX12_named_48 (by decide) ?_
          refine V_iload_n X (i := 1) 1 dX12_named_49 rfl rfl ?_
          refine K_12_wrong X (Or.inl q_1494) hZ h ⟨Nat.le_of_ble_eq_true rfl, Nat.le_of_ble_eq_true rfl⟩ ⟨Nat.zero_le _, Nat.zero_le _⟩ (st1 := []) (Nat.le_of_ble_eq_true rfl) dX12_named_50 (fun w3 v4 h => ?_)
          refine V_sub X (ls1 := [(0, .ref (ad 150)), (1, .int l1), (2, .int l2)]) [0, 1, 2] rfl ?_
          exact v_12_named_b53 X hr hZ ih _ _ _ _ h
set_option maxRecDepth 20000 in
theorem v_12_named (X : CXq p s m args meth c cX12_named 3 yX12_named.cls ad cy D (AW ad) s.heap) (hr : meth.sig.returnType = (some .int)) (hZ : ad 1000 = 189) {w : Mem} {wl : MemL} {Q : Int32 → Mem → MemL → Prop} (h : wp_12_named w wl Q) : V p l e (RM 3) s m args below meth c 3 ad cy D (AW ad) s.heap 0 0 (MQ below (va_Qi (fun r (u : Mem × MemL) => Q r u.1 u.2) (BM ad cy D wc) (AW ad)) args s 0 0 (AW ad)) wc w wl 0 [(0, .ref (ad 150))] [] := by
  unfold wp_12_named at h
  refine V_aload_n X (i := 0) 0 dX12_named_0 rfl rfl ?_
  refine K_12_goesOn X (Or.inl q_1478) hZ h ⟨Nat.le_of_ble_eq_true rfl, Nat.le_of_ble_eq_true rfl⟩ ⟨Nat.zero_le _, Nat.zero_le _⟩ (st1 := []) (Nat.le_of_ble_eq_true rfl) dX12_named_1 (fun w1 v2 h => ?_)
  refine V_aload_n X (i := 0) 0 dX12_named_4 rfl rfl ?_
  refine G_12_191 X hZ dX12_named_5 ?_
  obtain ⟨x3, ex3⟩ : ∃ y : Int32, y = (w1 150 11) := ⟨_, rfl⟩
  have h := h x3 ex3
  refine V_istore_n X dX12_named_8 rfl (by decide) ex3 (ls1 := [(1, .int x3), (0, .ref (ad 150))]) rfl ?_
  refine V_aload_n X (i := 0) 1 dX12_named_9 rfl rfl ?_
  refine V_iconst X (v := (1 : Int32)) dX12_named_10 (by decide) ?_
  refine K_12_must X (Or.inl q_1498) hZ h ⟨Nat.le_of_ble_eq_true rfl, Nat.le_of_ble_eq_true rfl⟩ ⟨Nat.zero_le _, Nat.zero_le _⟩ (st1 := []) (Nat.le_of_ble_eq_true rfl) dX12_named_11 (fun w4 v5 h => ?_)
  refine V_iconst X (v := (0 : Int32)) dX12_named_14 (by decide) ?_
  refine V_istore_n X dX12_named_15 rfl (by decide) rfl (ls1 := [(2, .int (0 : Int32)), (1, .int x3), (0, .ref (ad 150))]) rfl ?_
  refine V_sub X (ls1 := [(0, .ref (ad 150)), (1, .int x3), (2, .int (0 : Int32))]) [2, 1, 0] rfl ?_
  obtain ⟨nn, h⟩ := h
  exact v_12_named_b16 X hr hZ nn _ _ _ _ h
theorem c_12_named (hinj : INJ ad) (hZ : ad 1000 = 189) {w : Mem} {wl : MemL} {Q : Int32 → Mem → MemL → Prop} (h : wp_12_named w wl Q) : Met l yX12_named (TBq yX12_named cX12_named 3 (some .int)) (RM 3) (va_Pc [.ref (ad 150)] (PB ad cy D (cmb wc w) wl)) (va_Qi (fun r (u : Mem × MemL) => Q r u.1 u.2) (BM ad cy D wc) (AW ad)) 0 0 (AW ad) := M_enter (by decide) (Nat.le_of_ble_eq_true rfl) hinj (fun p e s m args below meth c X hr => v_12_named X hr hZ h)
theorem mf_12_named : MFV yX12_named cX12_named 3 (some .int) yX12_named.cls 0 := ⟨q_1509, q_1508, qs_56, q_14, by decide⟩
theorem K_12_named {own : String} {idx : Nat} (X : CXq p s m args meth c cc nL own ad cy D A H0) (hL : LK own idx yX12_named) (hZ : ad 1000 = 189) {w : Mem} {wl : MemL} {Q : Int32 → Mem → MemL → Prop} (h : wp_12_named w wl Q) (hR : (RM 3).frames + 1 ≤ R.frames ∧ 8 + (3 + 11) + (RM 3).locals ≤ R.locals) (hce : ce ≤ R.cells ∧ sl ≤ R.slots) (hcat : (st1.map fun v => v.category).sum ≤ 8) (hd : decode cc pc = .ok (.invokevirtual idx, 3)) (kk : ∀ (r : Int32) (u : Mem) (v : MemL), Q r u v → V p l e R s m args below meth c nL ad cy D A H0 ce sl Qs wc u v (pc + 3) ls (.int r :: st1)) : V p l e R s m args below meth c nL ad cy D A H0 ce sl Qs wc w wl pc ls (.ref (ad 150) :: st1) := V_callVI_m X mf_12_named hL (rfl : vwCl[12]? = some (RX12, TX12, 72)) (by decide) (rfl : SK 150 = 12) (hzk hZ (by decide)).2 (c_12_named X.2.2.2.2.2.2.2.1 hZ h) (As := []) rfl ⟨rfl, rfl⟩ hR hce st1 rfl hcat hd kk
set_option maxRecDepth 20000 in
theorem v_12_tellMan (X : CXq p s m args meth c cX12_tellMan 3 yX12_tellMan.cls ad cy D (AW ad) s.heap) (hr : meth.sig.returnType = none) (hZ : ad 1000 = 189) {w : Mem} {wl : MemL} {Q : Mem → MemL → Prop} (h : wp_12_tellMan w wl Q) : V p l e (RM 4) s m args below meth c 3 ad cy D (AW ad) s.heap 0 0 (MQ below (va_Qv (fun (u : Mem × MemL) => Q u.1 u.2) (BM ad cy D wc) (AW ad)) args s 0 0 (AW ad)) wc w wl 0 [(0, .ref (ad 150))] [] := by
  unfold wp_12_tellMan at h
  refine V_bipush X (v := (8 : Int32)) dX12_tellMan_0 (by decide) ?_
  refine V_aload_n X (i := 0) 0 dX12_tellMan_2 rfl rfl ?_
  refine G_12_221 X hZ dX12_tellMan_3 ?_
  refine V_imul X dX12_tellMan_6 ?_
  refine V_aload_n X (i := 0) 0 dX12_tellMan_7 rfl rfl ?_
  refine G_12_46 X hZ dX12_tellMan_8 ?_
  refine V_aload_n X (i := 0) 0 dX12_tellMan_11 rfl rfl ?_
  refine G_12_221 X hZ dX12_tellMan_12 ?_
  obtain ⟨g1, h⟩ := h
  refine V_iald_m X (rfl : SLq 160 = 2) (hzk hZ (by decide)) (rfl : SK 160 = 14) g1 dX12_tellMan_15 ?_
  refine V_iadd X dX12_tellMan_16 ?_
  obtain ⟨x2, ex2⟩ : ∃ y : Int32, y = (((8 : Int32) * (w 150 19)) + (w 160 (ix (w 150 19)))) := ⟨_, rfl⟩
  have h := h x2 ex2
  refine V_istore_n X dX12_tellMan_17 rfl (by decide) ex2 (ls1 := [(1, .int x2), (0, .ref (ad 150))]) rfl ?_
  refine V_aload_n X (i := 0) 1 dX12_tellMan_18 rfl rfl ?_
  refine K_12_named X (Or.inl q_1506) hZ h ⟨Nat.le_of_ble_eq_true rfl, Nat.le_of_ble_eq_true rfl⟩ ⟨Nat.zero_le _, Nat.zero_le _⟩ (st1 := []) (Nat.le_of_ble_eq_true rfl) dX12_tellMan_19 (fun r4 w3 v5 h => ?_)
  refine V_istore_n X dX12_tellMan_22 rfl (by decide) rfl (ls1 := [(2, .int r4), (1, .int x2), (0, .ref (ad 150))]) rfl ?_
  refine V_aload_n X (i := 0) 2 dX12_tellMan_23 rfl rfl ?_
  refine G_12_49 X hZ dX12_tellMan_24 ?_
  refine V_iload_n X (i := 1) 1 dX12_tellMan_27 rfl rfl ?_
  refine V_aload_n X (i := 0) 2 dX12_tellMan_28 rfl rfl ?_
  refine V_bipush X (v := (30 : Int32)) dX12_tellMan_29 (by decide) ?_
  refine V_bipush X (v := (120 : Int32)) dX12_tellMan_31 (by decide) ?_
  refine K_12_bounded X (Or.inl q_1490) hZ h ⟨Nat.le_of_ble_eq_true rfl, Nat.le_of_ble_eq_true rfl⟩ ⟨Nat.zero_le _, Nat.zero_le _⟩ (st1 := [.int x2, .ref (ad 161)]) (Nat.le_of_ble_eq_true rfl) dX12_tellMan_33 (fun r7 w6 v8 h => ?_)
  obtain ⟨g9, h⟩ := h
  obtain ⟨w10, ew10⟩ : ∃ y : Mem, y = st w6 161 (ix x2) r7 := ⟨_, rfl⟩
  have h := h w10 ew10
  refine V_iast_m X (rfl : SLq 161 = 16) (hzk hZ (by decide)) (rfl : SK 161 = 14) g9 dX12_tellMan_36 ew10 ?_
  refine V_aload_n X (i := 0) 2 dX12_tellMan_37 rfl rfl ?_
  refine G_12_52 X hZ dX12_tellMan_38 ?_
  refine V_iload_n X (i := 1) 1 dX12_tellMan_41 rfl rfl ?_
  refine V_aload_n X (i := 0) 2 dX12_tellMan_42 rfl rfl ?_
  refine V_bipush X (v := (100 : Int32)) dX12_tellMan_43 (by decide) ?_
  refine V_sipush X (v := (300 : Int32)) dX12_tellMan_45 (by decide) ?_
  refine K_12_bounded X (Or.inl q_1490) hZ h ⟨Nat.le_of_ble_eq_true rfl, Nat.le_of_ble_eq_true rfl⟩ ⟨Nat.zero_le _, Nat.zero_le _⟩ (st1 := [.int x2, .ref (ad 162)]) (Nat.le_of_ble_eq_true rfl) dX12_tellMan_48 (fun r12 w11 v13 h => ?_)
  obtain ⟨g14, h⟩ := h
  obtain ⟨w15, ew15⟩ : ∃ y : Mem, y = st w11 162 (ix x2) r12 := ⟨_, rfl⟩
  have h := h w15 ew15
  refine V_iast_m X (rfl : SLq 162 = 16) (hzk hZ (by decide)) (rfl : SK 162 = 14) g14 dX12_tellMan_51 ew15 ?_
  refine V_aload_n X (i := 0) 2 dX12_tellMan_52 rfl rfl ?_
  refine G_12_55 X hZ dX12_tellMan_53 ?_
  refine V_iload_n X (i := 1) 1 dX12_tellMan_56 rfl rfl ?_
  refine V_aload_n X (i := 0) 2 dX12_tellMan_57 rfl rfl ?_
  refine V_iconst X (v := (0 : Int32)) dX12_tellMan_58 (by decide) ?_
  refine V_bipush X (v := (9 : Int32)) dX12_tellMan_59 (by decide) ?_
  refine K_12_bounded X (Or.inl q_1490) hZ h ⟨Nat.le_of_ble_eq_true rfl, Nat.le_of_ble_eq_true rfl⟩ ⟨Nat.zero_le _, Nat.zero_le _⟩ (st1 := [.int x2, .ref (ad 163)]) (Nat.le_of_ble_eq_true rfl) dX12_tellMan_61 (fun r17 w16 v18 h => ?_)
  obtain ⟨g19, h⟩ := h
  obtain ⟨w20, ew20⟩ : ∃ y : Mem, y = st w16 163 (ix x2) r17 := ⟨_, rfl⟩
  have h := h w20 ew20
  refine V_iast_m X (rfl : SLq 163 = 16) (hzk hZ (by decide)) (rfl : SK 163 = 14) g19 dX12_tellMan_64 ew20 ?_
  refine V_aload_n X (i := 0) 2 dX12_tellMan_65 rfl rfl ?_
  refine G_12_58 X hZ dX12_tellMan_66 ?_
  refine V_iload_n X (i := 1) 1 dX12_tellMan_69 rfl rfl ?_
  refine V_aload_n X (i := 0) 2 dX12_tellMan_70 rfl rfl ?_
  refine V_iconst X (v := (0 : Int32)) dX12_tellMan_71 (by decide) ?_
  refine V_bipush X (v := (9 : Int32)) dX12_tellMan_72 (by decide) ?_
  refine K_12_bounded X (Or.inl q_1490) hZ h ⟨Nat.le_of_ble_eq_true rfl, Nat.le_of_ble_eq_true rfl⟩ ⟨Nat.zero_le _, Nat.zero_le _⟩ (st1 := [.int x2, .ref (ad 164)]) (Nat.le_of_ble_eq_true rfl) dX12_tellMan_74 (fun r22 w21 v23 h => ?_)
  obtain ⟨g24, h⟩ := h
  obtain ⟨w25, ew25⟩ : ∃ y : Mem, y = st w21 164 (ix x2) r22 := ⟨_, rfl⟩
  have h := h w25 ew25
  refine V_iast_m X (rfl : SLq 164 = 16) (hzk hZ (by decide)) (rfl : SK 164 = 14) g24 dX12_tellMan_77 ew25 ?_
  refine V_aload_n X (i := 0) 2 dX12_tellMan_78 rfl rfl ?_
  refine V_iconst X (v := (4 : Int32)) dX12_tellMan_79 (by decide) ?_
  refine K_12_must X (Or.inl q_1498) hZ h ⟨Nat.le_of_ble_eq_true rfl, Nat.le_of_ble_eq_true rfl⟩ ⟨Nat.zero_le _, Nat.zero_le _⟩ (st1 := []) (Nat.le_of_ble_eq_true rfl) dX12_tellMan_80 (fun w26 v27 h => ?_)
  refine V_aload_n X (i := 0) 2 dX12_tellMan_83 rfl rfl ?_
  refine G_12_188 X hZ dX12_tellMan_84 ?_
  obtain ⟨ht, hf⟩ := h
  refine V_if_le X (tgt := 91) dX12_tellMan_87 (by decide) (fun c => ?_) (fun c => ?_)
  · have h := ht c
    refine V_aload_n X (i := 0) 2 dX12_tellMan_91 rfl rfl ?_
    refine G_12_40 X hZ dX12_tellMan_92 ?_
    refine V_aload_n X (i := 0) 2 dX12_tellMan_95 rfl rfl ?_
    refine G_12_224 X hZ dX12_tellMan_96 ?_
    refine V_aload_n X (i := 0) 2 dX12_tellMan_99 rfl rfl ?_
    refine G_12_30 X hZ dX12_tellMan_100 ?_
    refine V_iload_n X (i := 2) 0 dX12_tellMan_103 rfl rfl ?_
    obtain ⟨g28, h⟩ := h
    refine V_lald X (rfl : SLq 156 = 403) (hzk hZ (by decide)) (rfl : SK 156 = 15) g28 dX12_tellMan_104 ?_
    obtain ⟨g29, h⟩ := h
    obtain ⟨v30, ev30⟩ : ∃ y : MemL, y = stL v27 158 (ix (w26 150 20)) (v27 156 (ix r4)) := ⟨_, rfl⟩
    have h := h v30 ev30
    refine V_last X (rfl : SLq 158 = 15) (hzk hZ (by decide)) (rfl : SK 158 = 15) g29 dX12_tellMan_105 ev30 ?_
    refine V_aload_n X (i := 0) 2 dX12_tellMan_106 rfl rfl ?_
    refine V_dup X dX12_tellMan_107 rfl ?_
    refine G_12_224 X hZ dX12_tellMan_108 ?_
    refine V_iconst X (v := (1 : Int32)) dX12_tellMan_111 (by decide) ?_
    refine V_iadd X dX12_tellMan_112 ?_
    obtain ⟨w31, ew31⟩ : ∃ y : Mem, y = st w26 150 20 ((w26 150 20) + (1 : Int32)) := ⟨_, rfl⟩
    have h := h w31 ew31
    refine U_12_224 X hZ rfl rfl dX12_tellMan_113 ew31 ?_
    refine V_aload_n X (i := 0) 2 dX12_tellMan_116 rfl rfl ?_
    refine G_12_46 X hZ dX12_tellMan_117 ?_
    refine V_aload_n X (i := 0) 2 dX12_tellMan_120 rfl rfl ?_
    refine G_12_221 X hZ dX12_tellMan_121 ?_
    refine V_dup2 X dX12_tellMan_124 rfl rfl ?_
    obtain ⟨g32, h⟩ := h
    refine V_iald_m X (rfl : SLq 160 = 2) (hzk hZ (by decide)) (rfl : SK 160 = 14) g32 dX12_tellMan_125 ?_
    refine V_iconst X (v := (1 : Int32)) dX12_tellMan_126 (by decide) ?_
    refine V_iadd X dX12_tellMan_127 ?_
    obtain ⟨g33, h⟩ := h
    obtain ⟨w34, ew34⟩ : ∃ y : Mem, y = st w31 160 (ix (w31 150 19)) ((w31 160 (ix (w31 150 19))) + (1 : Int32)) := ⟨_, rfl⟩
    have h := h w34 ew34
    refine V_iast_m X (rfl : SLq 160 = 2) (hzk hZ (by decide)) (rfl : SK 160 = 14) g33 dX12_tellMan_128 ew34 ?_
    exact V_vret_m X hr dX12_tellMan_129 h
  · have h := hf c
    exact V_vret_m X hr dX12_tellMan_90 h
theorem c_12_tellMan (hinj : INJ ad) (hZ : ad 1000 = 189) {w : Mem} {wl : MemL} {Q : Mem → MemL → Prop} (h : wp_12_tellMan w wl Q) : Met l yX12_tellMan (TBq yX12_tellMan cX12_tellMan 3 none) (RM 4) (va_Pc [.ref (ad 150)] (PB ad cy D (cmb wc w) wl)) (va_Qv (fun (u : Mem × MemL) => Q u.1 u.2) (BM ad cy D wc) (AW ad)) 0 0 (AW ad) := M_enter (by decide) (Nat.le_of_ble_eq_true rfl) hinj (fun p e s m args below meth c X hr => v_12_tellMan X hr hZ h)
theorem mf_12_tellMan : MFV yX12_tellMan cX12_tellMan 3 none yX12_tellMan.cls 0 := ⟨q_1505, q_1504, qs_55, q_14, by decide⟩
theorem K_12_tellMan {own : String} {idx : Nat} (X : CXq p s m args meth c cc nL own ad cy D A H0) (hL : LK own idx yX12_tellMan) (hZ : ad 1000 = 189) {w : Mem} {wl : MemL} {Q : Mem → MemL → Prop} (h : wp_12_tellMan w wl Q) (hR : (RM 4).frames + 1 ≤ R.frames ∧ 8 + (3 + 11) + (RM 4).locals ≤ R.locals) (hce : ce ≤ R.cells ∧ sl ≤ R.slots) (hcat : (st1.map fun v => v.category).sum ≤ 8) (hd : decode cc pc = .ok (.invokevirtual idx, 3)) (kk : ∀ (u : Mem) (v : MemL), Q u v → V p l e R s m args below meth c nL ad cy D A H0 ce sl Qs wc u v (pc + 3) ls st1) : V p l e R s m args below meth c nL ad cy D A H0 ce sl Qs wc w wl pc ls (.ref (ad 150) :: st1) := V_callVV_m X mf_12_tellMan hL (rfl : vwCl[12]? = some (RX12, TX12, 72)) (by decide) (rfl : SK 150 = 12) (hzk hZ (by decide)).2 (c_12_tellMan X.2.2.2.2.2.2.2.1 hZ h) (As := []) rfl ⟨rfl, rfl⟩ hR hce st1 rfl hcat hd kk
set_option maxRecDepth 20000 in
theorem v_12_tellJudge_b64 (X : CXq p s m args meth c cX12_tellJudge 5 yX12_tellJudge.cls ad cy D (AW ad) s.heap) (hr : meth.sig.returnType = none) (hZ : ad 1000 = 189) {Q : Mem → MemL → Prop} : ∀ (l1 : Int32) (l2 : Int32) (s1 : Int32) (s2 : Int32) (w : Mem) (wl : MemL), wp_12_tellJudge_b64 Q l1 l2 s1 s2 w wl → V p l e (RM 4) s m args below meth c 5 ad cy D (AW ad) s.heap 0 0 (MQ below (va_Qv (fun (u : Mem × MemL) => Q u.1 u.2) (BM ad cy D wc) (AW ad)) args s 0 0 (AW ad)) wc w wl 64 [(0, .ref (ad 150)), (1, .int l1), (2, .int l2)] [.int s2, .int s1, .ref (ad 166)] := by
  intro l1 l2 s1 s2 w wl h
  unfold wp_12_tellJudge_b64 at h
  obtain ⟨g1, h⟩ := h
  obtain ⟨w2, ew2⟩ : ∃ y : Mem, y = st w 166 (ix s1) s2 := ⟨_, rfl⟩
  have h := h w2 ew2
  refine V_iast_m X (rfl : SLq 166 = 14) (hzk hZ (by decide)) (rfl : SK 166 = 14) g1 dX12_tellJudge_64 ew2 ?_
  refine V_aload_n X (i := 0) 0 dX12_tellJudge_65 rfl rfl ?_
  refine G_12_67 X hZ dX12_tellJudge_66 ?_
  refine V_iload_n X (i := 1) 1 dX12_tellJudge_69 rfl rfl ?_
  refine V_aload_n X (i := 0) 0 dX12_tellJudge_70 rfl rfl ?_
  refine V_iconst X (v := (0 : Int32)) dX12_tellJudge_71 (by decide) ?_
  refine V_bipush X (v := (9 : Int32)) dX12_tellJudge_72 (by decide) ?_
  refine K_12_bounded X (Or.inl q_1490) hZ h ⟨Nat.le_of_ble_eq_true rfl, Nat.le_of_ble_eq_true rfl⟩ ⟨Nat.zero_le _, Nat.zero_le _⟩ (st1 := [.int l1, .ref (ad 167)]) (Nat.le_of_ble_eq_true rfl) dX12_tellJudge_74 (fun r4 w3 v5 h => ?_)
  obtain ⟨g6, h⟩ := h
  obtain ⟨w7, ew7⟩ : ∃ y : Mem, y = st w3 167 (ix l1) r4 := ⟨_, rfl⟩
  have h := h w7 ew7
  refine V_iast_m X (rfl : SLq 167 = 14) (hzk hZ (by decide)) (rfl : SK 167 = 14) g6 dX12_tellJudge_77 ew7 ?_
  refine V_aload_n X (i := 0) 0 dX12_tellJudge_78 rfl rfl ?_
  refine V_iconst X (v := (4 : Int32)) dX12_tellJudge_79 (by decide) ?_
  refine K_12_must X (Or.inl q_1498) hZ h ⟨Nat.le_of_ble_eq_true rfl, Nat.le_of_ble_eq_true rfl⟩ ⟨Nat.zero_le _, Nat.zero_le _⟩ (st1 := []) (Nat.le_of_ble_eq_true rfl) dX12_tellJudge_80 (fun w8 v9 h => ?_)
  refine V_aload_n X (i := 0) 0 dX12_tellJudge_83 rfl rfl ?_
  refine G_12_188 X hZ dX12_tellJudge_84 ?_
  obtain ⟨ht, hf⟩ := h
  refine V_if_le X (tgt := 91) dX12_tellJudge_87 (by decide) (fun c => ?_) (fun c => ?_)
  · have h := ht c
    refine V_aload_n X (i := 0) 0 dX12_tellJudge_91 rfl rfl ?_
    refine G_12_40 X hZ dX12_tellJudge_92 ?_
    refine V_aload_n X (i := 0) 0 dX12_tellJudge_95 rfl rfl ?_
    refine G_12_224 X hZ dX12_tellJudge_96 ?_
    refine V_aload_n X (i := 0) 0 dX12_tellJudge_99 rfl rfl ?_
    refine G_12_30 X hZ dX12_tellJudge_100 ?_
    refine V_iload_n X (i := 2) 2 dX12_tellJudge_103 rfl rfl ?_
    obtain ⟨g10, h⟩ := h
    refine V_lald X (rfl : SLq 156 = 403) (hzk hZ (by decide)) (rfl : SK 156 = 15) g10 dX12_tellJudge_104 ?_
    obtain ⟨g11, h⟩ := h
    obtain ⟨v12, ev12⟩ : ∃ y : MemL, y = stL v9 158 (ix (w8 150 20)) (v9 156 (ix l2)) := ⟨_, rfl⟩
    have h := h v12 ev12
    refine V_last X (rfl : SLq 158 = 15) (hzk hZ (by decide)) (rfl : SK 158 = 15) g11 dX12_tellJudge_105 ev12 ?_
    refine V_aload_n X (i := 0) 0 dX12_tellJudge_106 rfl rfl ?_
    refine V_dup X dX12_tellJudge_107 rfl ?_
    refine G_12_224 X hZ dX12_tellJudge_108 ?_
    refine V_iconst X (v := (1 : Int32)) dX12_tellJudge_111 (by decide) ?_
    refine V_iadd X dX12_tellJudge_112 ?_
    obtain ⟨w13, ew13⟩ : ∃ y : Mem, y = st w8 150 20 ((w8 150 20) + (1 : Int32)) := ⟨_, rfl⟩
    have h := h w13 ew13
    refine U_12_224 X hZ rfl rfl dX12_tellJudge_113 ew13 ?_
    refine V_aload_n X (i := 0) 0 dX12_tellJudge_116 rfl rfl ?_
    refine G_12_61 X hZ dX12_tellJudge_117 ?_
    refine V_aload_n X (i := 0) 0 dX12_tellJudge_120 rfl rfl ?_
    refine G_12_221 X hZ dX12_tellJudge_121 ?_
    refine V_dup2 X dX12_tellJudge_124 rfl rfl ?_
    obtain ⟨g14, h⟩ := h
    refine V_iald_m X (rfl : SLq 165 = 2) (hzk hZ (by decide)) (rfl : SK 165 = 14) g14 dX12_tellJudge_125 ?_
    refine V_iconst X (v := (1 : Int32)) dX12_tellJudge_126 (by decide) ?_
    refine V_iadd X dX12_tellJudge_127 ?_
    obtain ⟨g15, h⟩ := h
    obtain ⟨w16, ew16⟩ : ∃ y : Mem, y = st w13 165 (ix (w13 150 19)) ((w13 165 (ix (w13 150 19))) + (1 : Int32)) := ⟨_, rfl⟩
    have h := h w16 ew16
    refine V_iast_m X (rfl : SLq 165 = 2) (hzk hZ (by decide)) (rfl : SK 165 = 14) g15 dX12_tellJudge_128 ew16 ?_
    exact V_vret_m X hr dX12_tellJudge_129 h
  · have h := hf c
    exact V_vret_m X hr dX12_tellJudge_90 h
set_option maxRecDepth 20000 in
theorem v_12_tellJudge_b38 (X : CXq p s m args meth c cX12_tellJudge 5 yX12_tellJudge.cls ad cy D (AW ad) s.heap) (hr : meth.sig.returnType = none) (hZ : ad 1000 = 189) {Q : Mem → MemL → Prop} : ∀ (l1 : Int32) (l2 : Int32) (l3 : Int32) (w : Mem) (wl : MemL), wp_12_tellJudge_b38 Q l1 l2 l3 w wl → V p l e (RM 4) s m args below meth c 5 ad cy D (AW ad) s.heap 0 0 (MQ below (va_Qv (fun (u : Mem × MemL) => Q u.1 u.2) (BM ad cy D wc) (AW ad)) args s 0 0 (AW ad)) wc w wl 38 [(0, .ref (ad 150)), (1, .int l1), (2, .int l2), (3, .int l3)] [] := by
  intro l1 l2 l3 w wl h
  unfold wp_12_tellJudge_b38 at h
  refine V_aload_n X (i := 0) 0 dX12_tellJudge_38 rfl rfl ?_
  refine V_iconst X (v := (0 : Int32)) dX12_tellJudge_39 (by decide) ?_
  refine V_bipush X (v := (9 : Int32)) dX12_tellJudge_40 (by decide) ?_
  refine K_12_bounded X (Or.inl q_1490) hZ h ⟨Nat.le_of_ble_eq_true rfl, Nat.le_of_ble_eq_true rfl⟩ ⟨Nat.zero_le _, Nat.zero_le _⟩ (st1 := []) (Nat.le_of_ble_eq_true rfl) dX12_tellJudge_42 (fun r2 w1 v3 h => ?_)
  refine V_istore X dX12_tellJudge_45 (by decide) rfl (ls1 := [(4, .int r2), (0, .ref (ad 150)), (1, .int l1), (2, .int l2), (3, .int l3)]) rfl ?_
  refine V_aload_n X (i := 0) 1 dX12_tellJudge_47 rfl rfl ?_
  refine G_12_64 X hZ dX12_tellJudge_48 ?_
  refine V_iload_n X (i := 1) 2 dX12_tellJudge_51 rfl rfl ?_
  refine V_iload_n X (i := 3) 4 dX12_tellJudge_52 rfl rfl ?_
  obtain ⟨ht, hf⟩ := h
  refine V_if_eq X (tgt := 62) dX12_tellJudge_53 (by decide) (fun c => ?_) (fun c => ?_)
  · have h := ht c
    refine V_iload X (i := 4) 0 dX12_tellJudge_62 rfl ?_
    refine V_sub X (ls1 := [(0, .ref (ad 150)), (1, .int l1), (2, .int l2)]) [1, 2, 3] rfl ?_
    exact v_12_tellJudge_b64 X hr hZ _ _ _ _ _ _ h
  · have h := hf c
    refine V_iload X (i := 4) 0 dX12_tellJudge_56 rfl ?_
    refine V_ineg X dX12_tellJudge_58 ?_
    refine V_goto X (tgt := 64) dX12_tellJudge_59 (by decide) ?_
    refine V_sub X (ls1 := [(0, .ref (ad 150)), (1, .int l1), (2, .int l2)]) [1, 2, 3] rfl ?_
    exact v_12_tellJudge_b64 X hr hZ _ _ _ _ _ _ h
set_option maxRecDepth 20000 in
theorem v_12_tellJudge (X : CXq p s m args meth c cX12_tellJudge 5 yX12_tellJudge.cls ad cy D (AW ad) s.heap) (hr : meth.sig.returnType = none) (hZ : ad 1000 = 189) {w : Mem} {wl : MemL} {Q : Mem → MemL → Prop} (h : wp_12_tellJudge w wl Q) : V p l e (RM 4) s m args below meth c 5 ad cy D (AW ad) s.heap 0 0 (MQ below (va_Qv (fun (u : Mem × MemL) => Q u.1 u.2) (BM ad cy D wc) (AW ad)) args s 0 0 (AW ad)) wc w wl 0 [(0, .ref (ad 150))] [] := by
  unfold wp_12_tellJudge at h
  refine V_bipush X (v := (7 : Int32)) dX12_tellJudge_0 (by decide) ?_
  refine V_aload_n X (i := 0) 0 dX12_tellJudge_2 rfl rfl ?_
  refine G_12_221 X hZ dX12_tellJudge_3 ?_
  refine V_imul X dX12_tellJudge_6 ?_
  refine V_aload_n X (i := 0) 0 dX12_tellJudge_7 rfl rfl ?_
  refine G_12_61 X hZ dX12_tellJudge_8 ?_
  refine V_aload_n X (i := 0) 0 dX12_tellJudge_11 rfl rfl ?_
  refine G_12_221 X hZ dX12_tellJudge_12 ?_
  obtain ⟨g1, h⟩ := h
  refine V_iald_m X (rfl : SLq 165 = 2) (hzk hZ (by decide)) (rfl : SK 165 = 14) g1 dX12_tellJudge_15 ?_
  refine V_iadd X dX12_tellJudge_16 ?_
  obtain ⟨x2, ex2⟩ : ∃ y : Int32, y = (((7 : Int32) * (w 150 19)) + (w 165 (ix (w 150 19)))) := ⟨_, rfl⟩
  have h := h x2 ex2
  refine V_istore_n X dX12_tellJudge_17 rfl (by decide) ex2 (ls1 := [(1, .int x2), (0, .ref (ad 150))]) rfl ?_
  refine V_aload_n X (i := 0) 1 dX12_tellJudge_18 rfl rfl ?_
  refine K_12_named X (Or.inl q_1506) hZ h ⟨Nat.le_of_ble_eq_true rfl, Nat.le_of_ble_eq_true rfl⟩ ⟨Nat.zero_le _, Nat.zero_le _⟩ (st1 := []) (Nat.le_of_ble_eq_true rfl) dX12_tellJudge_19 (fun r4 w3 v5 h => ?_)
  refine V_istore_n X dX12_tellJudge_22 rfl (by decide) rfl (ls1 := [(2, .int r4), (1, .int x2), (0, .ref (ad 150))]) rfl ?_
  refine V_aload_n X (i := 0) 2 dX12_tellJudge_23 rfl rfl ?_
  refine V_bipush X (v := (9 : Int32)) dX12_tellJudge_24 (by decide) ?_
  refine K_12_is X (Or.inl q_1470) hZ h ⟨Nat.le_of_ble_eq_true rfl, Nat.le_of_ble_eq_true rfl⟩ ⟨Nat.zero_le _, Nat.zero_le _⟩ (st1 := []) (Nat.le_of_ble_eq_true rfl) dX12_tellJudge_26 (fun r7 w6 v8 h => ?_)
  refine V_istore_n X dX12_tellJudge_29 rfl (by decide) rfl (ls1 := [(3, .int r7), (2, .int r4), (1, .int x2), (0, .ref (ad 150))]) rfl ?_
  refine V_iload_n X (i := 3) 0 dX12_tellJudge_30 rfl rfl ?_
  obtain ⟨ht, hf⟩ := h
  refine V_if_eq X (tgt := 38) dX12_tellJudge_31 (by decide) (fun c => ?_) (fun c => ?_)
  · have h := ht c
    refine V_sub X (ls1 := [(0, .ref (ad 150)), (1, .int x2), (2, .int r4), (3, .int r7)]) [3, 2, 1, 0] rfl ?_
    exact v_12_tellJudge_b38 X hr hZ _ _ _ _ _ h
  · have h := hf c
    refine V_aload_n X (i := 0) 3 dX12_tellJudge_34 rfl rfl ?_
    refine K_12_goesOn X (Or.inl q_1478) hZ h ⟨Nat.le_of_ble_eq_true rfl, Nat.le_of_ble_eq_true rfl⟩ ⟨Nat.zero_le _, Nat.zero_le _⟩ (st1 := []) (Nat.le_of_ble_eq_true rfl) dX12_tellJudge_35 (fun w9 v10 h => ?_)
    refine V_sub X (ls1 := [(0, .ref (ad 150)), (1, .int x2), (2, .int r4), (3, .int r7)]) [3, 2, 1, 0] rfl ?_
    exact v_12_tellJudge_b38 X hr hZ _ _ _ _ _ h
theorem c_12_tellJudge (hinj : INJ ad) (hZ : ad 1000 = 189) {w : Mem} {wl : MemL} {Q : Mem → MemL → Prop} (h : wp_12_tellJudge w wl Q) : Met l yX12_tellJudge (TBq yX12_tellJudge cX12_tellJudge 5 none) (RM 4) (va_Pc [.ref (ad 150)] (PB ad cy D (cmb wc w) wl)) (va_Qv (fun (u : Mem × MemL) => Q u.1 u.2) (BM ad cy D wc) (AW ad)) 0 0 (AW ad) := M_enter (by decide) (Nat.le_of_ble_eq_true rfl) hinj (fun p e s m args below meth c X hr => v_12_tellJudge X hr hZ h)
theorem mf_12_tellJudge : MFV yX12_tellJudge cX12_tellJudge 5 none yX12_tellJudge.cls 0 := ⟨q_1513, q_1512, qs_57, q_14, by decide⟩
theorem K_12_tellJudge {own : String} {idx : Nat} (X : CXq p s m args meth c cc nL own ad cy D A H0) (hL : LK own idx yX12_tellJudge) (hZ : ad 1000 = 189) {w : Mem} {wl : MemL} {Q : Mem → MemL → Prop} (h : wp_12_tellJudge w wl Q) (hR : (RM 4).frames + 1 ≤ R.frames ∧ 8 + (5 + 11) + (RM 4).locals ≤ R.locals) (hce : ce ≤ R.cells ∧ sl ≤ R.slots) (hcat : (st1.map fun v => v.category).sum ≤ 8) (hd : decode cc pc = .ok (.invokevirtual idx, 3)) (kk : ∀ (u : Mem) (v : MemL), Q u v → V p l e R s m args below meth c nL ad cy D A H0 ce sl Qs wc u v (pc + 3) ls st1) : V p l e R s m args below meth c nL ad cy D A H0 ce sl Qs wc w wl pc ls (.ref (ad 150) :: st1) := V_callVV_m X mf_12_tellJudge hL (rfl : vwCl[12]? = some (RX12, TX12, 72)) (by decide) (rfl : SK 150 = 12) (hzk hZ (by decide)).2 (c_12_tellJudge X.2.2.2.2.2.2.2.1 hZ h) (As := []) rfl ⟨rfl, rfl⟩ hR hce st1 rfl hcat hd kk
end
